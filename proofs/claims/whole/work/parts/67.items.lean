/-! ===== items: what they say, and how the class reads them ===== -/
abbrev PT : Type := (Nat → Nat) × (Nat → Nat) × (Nat → Nat) × Nat × Nat
abbrev PS : Type := (HS × Nat) × PT × (Bool × Bool × Bool)
def pD (p : PT) : Nat → Nat := p.1
def pW (p : PT) : Nat → Nat := p.2.1
def pT (p : PT) : Nat → Nat := p.2.2.1
def pN (p : PT) : Nat := p.2.2.2.1
def pS (p : PT) : Nat := p.2.2.2.2
def pps (p : PT) (d : Nat) : Nat := ip (fun i => nI (pD p i)) (nI d) (pN p)
def pIns (p : PT) (d w t : Nat) : PT := (ins (pD p) (pps p d) d, ins (pW p) (pps p d) w, ins (pT p) (pps p d) t, pN p + 1, pS p)
def pSta (p : PT) (s : Nat) : PT := (pD p, pW p, pT p, pN p, s)
def PTB (p : PT) : Prop := PB (pW p) (pT p) (pN p) (pS p)
def bI (b : Bool) : Int32 := if b then 1 else 0
def PC (p : PT) (start : Int32) (cd cf cs : Nat → Int32) (csz : Int32) : Prop := csz = nI (pN p) ∧ start = nI (pS p) ∧ ∀ k, k < pN p → cd k = nI (pD p k) ∧ cf k = nI (pW p k) ∧ cs k = nI (pT p k)
theorem ins_lt8 {f : Nat → Nat} {n k v B : Nat} (h : ∀ i, i < n → f i < B) (hv : v < B) (hk : k ≤ n) : ∀ i, i < n + 1 → ins f k v i < B := by
  intro i hi
  unfold ins
  by_cases c : i < k
  · rw [if_pos c]; exact h i (by omega)
  · rw [if_neg c]
    by_cases d : i = k
    · rw [if_pos d]; exact hv
    · rw [if_neg d]; exact h (i - 1) (by omega)
theorem PTB_ins {p : PT} {d w t : Nat} (hb : PTB p) (hn : pN p < 6) (hw : w < 8) (ht : t < 8) : PTB (pIns p d w t) := by
  obtain ⟨b1, b2, b3⟩ := hb
  have hk : pps p d ≤ pN p := ip_le _ _ _
  refine ⟨?_, b2, fun k hk' => ⟨?_, ?_⟩⟩
  · show pN p + 1 ≤ 6; omega
  · exact ins_lt8 (fun i hi => (b3 i hi).1) hw hk k hk'
  · exact ins_lt8 (fun i hi => (b3 i hi).2) ht hk k hk'
theorem PTB_sta {p : PT} {s : Nat} (hb : PTB p) (hs : s < 8) : PTB (pSta p s) := ⟨hb.1, hs, hb.2.2⟩
theorem x_pinsert {p : PT} {start : Int32} {cd cf cs : Nat → Int32} {csz : Int32} (hn : pN p < 6) (hc : PC p start cd cf cs csz) {d w t : Nat} {Q : Int32 → (Nat → Int32) → (Nat → Int32) → (Nat → Int32) → Int32 → Prop} (hQ : ∀ (r : Int32) (D F G : Nat → Int32), PC (pIns p d w t) start D F G (nI (pN p + 1)) → Q r D F G (nI (pN p + 1))) : wp_X0_insert 6 cd cf cs (nI (pN p)) (nI d) (nI w) (nI t) Q := by
  obtain ⟨-, c2, c3⟩ := hc
  have hp : ip cd (nI d) (pN p) = pps p d := ip_congr _ (fun i hi => (c3 i hi).1)
  have hpl : pps p d ≤ pN p := ip_le _ _ _
  refine x_insert (by decide) hn (fun D F G hDFG => ?_)
  rw [hp] at hDFG
  refine hQ _ D F G ⟨rfl, c2, fun i hi => ?_⟩
  obtain ⟨e1, e2, e3⟩ := hDFG i hi
  refine ⟨?_, ?_, ?_⟩
  · rw [e1]; exact ins_nI hpl hi (fun j hj => (c3 j hj).1)
  · rw [e2]; exact ins_nI hpl hi (fun j hj => (c3 j hj).2.1)
  · rw [e3]; exact ins_nI hpl hi (fun j hj => (c3 j hj).2.2)
def prR (tx : Nat → Nat) (l i : Nat) : Nat ⊕ ((Nat × Nat × Nat) × Nat) := match nnum tx l i 0 999 with
  | .inl p => .inl p
  | .inr (d, i1) => match nnum tx l i1 0 9999 with
    | .inl p => .inl p
    | .inr (c, i2) => match nnum tx l i2 1 9 with
      | .inl p => .inl p
      | .inr (w, i3) => match nend tx l i3 with
        | .inl p => .inl p
        | .inr (_, i4) => .inr ((d, c, w), i4)
def prP (tx : Nat → Nat) (l i : Nat) : Nat ⊕ ((Nat × Nat × Nat) × Nat) := match nnum tx l i 0 999 with
  | .inl p => .inl p
  | .inr (d, i1) => match nplt tx l i1 with
    | .inl p => .inl p
    | .inr (w, i2) => match nplt tx l i2 with
      | .inl p => .inl p
      | .inr (t, i3) => if t = w then .inl (tkn tx l i2).1 else match nend tx l i3 with
        | .inl p => .inl p
        | .inr (_, i4) => .inr ((d, w, t), i4)
def prF (tx : Nat → Nat) (l i : Nat) : Nat ⊕ (Nat × Nat) := match nnum tx l i 1 99 with
  | .inl p => .inl p
  | .inr (v, i1) => match nend tx l i1 with
    | .inl p => .inl p
    | .inr (_, i2) => .inr (v, i2)
def prW (tx : Nat → Nat) (l i : Nat) : Nat ⊕ (Nat × Nat) := match nnum tx l i 0 9999 with
  | .inl p => .inl p
  | .inr (v, i1) => if 0 < v ∧ v < 100 then .inl (tkn tx l i).1 else match nend tx l i1 with
    | .inl p => .inl p
    | .inr (_, i2) => .inr (v, i2)
def prO (tx : Nat → Nat) (l i : Nat) : Nat ⊕ (Nat × Nat) := match nplt tx l i with
  | .inl p => .inl p
  | .inr (v, i1) => match nend tx l i1 with
    | .inl p => .inl p
    | .inr (_, i2) => .inr (v, i2)
theorem prR_ok {tx : Nat → Nat} {l i d c w e : Nat} (hi : i ≤ l) (h : prR tx l i = .inr ((d, c, w), e)) : d ≤ 999 ∧ c ≤ 9999 ∧ w ≤ 9 ∧ i < e ∧ e ≤ l := by
  unfold prR at h
  cases e1 : nnum tx l i 0 999 with
  | inl p => rw [e1] at h; cases h
  | inr v1 =>
    obtain ⟨d', i1⟩ := v1
    rw [e1] at h; dsimp only at h
    have k1 := nnum_ok hi e1
    cases e2 : nnum tx l i1 0 9999 with
    | inl p => rw [e2] at h; cases h
    | inr v2 =>
      obtain ⟨c', i2⟩ := v2
      rw [e2] at h; dsimp only at h
      have k2 := nnum_ok (by omega) e2
      cases e3 : nnum tx l i2 1 9 with
      | inl p => rw [e3] at h; cases h
      | inr v3 =>
        obtain ⟨w', i3⟩ := v3
        rw [e3] at h; dsimp only at h
        have k3 := nnum_ok (by omega) e3
        cases e4 : nend tx l i3 with
        | inl p => rw [e4] at h; cases h
        | inr v4 =>
          obtain ⟨u', i4⟩ := v4
          rw [e4] at h; dsimp only at h
          have k4 := nend_ok (by omega) e4
          have h' := Prod.mk.inj (Sum.inr.inj h)
          obtain ⟨h1, rfl⟩ := h'
          have h1' := Prod.mk.inj h1
          obtain ⟨rfl, h2⟩ := h1'
          have h2' := Prod.mk.inj h2
          obtain ⟨rfl, rfl⟩ := h2'
          omega
theorem prP_ok {tx : Nat → Nat} {l i d w t e : Nat} (hi : i ≤ l) (h : prP tx l i = .inr ((d, w, t), e)) : w < 8 ∧ t < 8 ∧ i < e ∧ e ≤ l := by
  unfold prP at h
  cases e1 : nnum tx l i 0 999 with
  | inl p => rw [e1] at h; cases h
  | inr v1 =>
    obtain ⟨d', i1⟩ := v1
    rw [e1] at h; dsimp only at h
    have k1 := nnum_ok hi e1
    cases e2 : nplt tx l i1 with
    | inl p => rw [e2] at h; cases h
    | inr v2 =>
      obtain ⟨w', i2⟩ := v2
      rw [e2] at h; dsimp only at h
      have k2 := nplt_ok (by omega) e2
      cases e3 : nplt tx l i2 with
      | inl p => rw [e3] at h; cases h
      | inr v3 =>
        obtain ⟨t', i3⟩ := v3
        rw [e3] at h; dsimp only at h
        have k3 := nplt_ok (by omega) e3
        by_cases c : t' = w'
        · rw [if_pos c] at h; cases h
        · rw [if_neg c] at h
          cases e4 : nend tx l i3 with
          | inl p => rw [e4] at h; cases h
          | inr v4 =>
            obtain ⟨u', i4⟩ := v4
            rw [e4] at h; dsimp only at h
            have k4 := nend_ok (by omega) e4
            have h' := Prod.mk.inj (Sum.inr.inj h)
            obtain ⟨h1, rfl⟩ := h'
            have h1' := Prod.mk.inj h1
            obtain ⟨rfl, h2⟩ := h1'
            have h2' := Prod.mk.inj h2
            obtain ⟨rfl, rfl⟩ := h2'
            omega
theorem prF_ok {tx : Nat → Nat} {l i v e : Nat} (hi : i ≤ l) (h : prF tx l i = .inr (v, e)) : v ≤ 99 ∧ i < e ∧ e ≤ l := by
  unfold prF at h
  cases e1 : nnum tx l i 1 99 with
  | inl p => rw [e1] at h; cases h
  | inr v1 =>
    obtain ⟨d', i1⟩ := v1
    rw [e1] at h; dsimp only at h
    have k1 := nnum_ok hi e1
    cases e4 : nend tx l i1 with
    | inl p => rw [e4] at h; cases h
    | inr v4 =>
      obtain ⟨u', i4⟩ := v4
      rw [e4] at h; dsimp only at h
      have k4 := nend_ok (by omega) e4
      have h' := Prod.mk.inj (Sum.inr.inj h)
      obtain ⟨rfl, rfl⟩ := h'
      omega
theorem prW_ok {tx : Nat → Nat} {l i v e : Nat} (hi : i ≤ l) (h : prW tx l i = .inr (v, e)) : v ≤ 9999 ∧ i < e ∧ e ≤ l := by
  unfold prW at h
  cases e1 : nnum tx l i 0 9999 with
  | inl p => rw [e1] at h; cases h
  | inr v1 =>
    obtain ⟨d', i1⟩ := v1
    rw [e1] at h; dsimp only at h
    have k1 := nnum_ok hi e1
    by_cases c : 0 < d' ∧ d' < 100
    · rw [if_pos c] at h; cases h
    · rw [if_neg c] at h
      cases e4 : nend tx l i1 with
      | inl p => rw [e4] at h; cases h
      | inr v4 =>
        obtain ⟨u', i4⟩ := v4
        rw [e4] at h; dsimp only at h
        have k4 := nend_ok (by omega) e4
        have h' := Prod.mk.inj (Sum.inr.inj h)
        obtain ⟨rfl, rfl⟩ := h'
        omega
theorem prO_ok {tx : Nat → Nat} {l i v e : Nat} (hi : i ≤ l) (h : prO tx l i = .inr (v, e)) : v < 8 ∧ i < e ∧ e ≤ l := by
  unfold prO at h
  cases e1 : nplt tx l i with
  | inl p => rw [e1] at h; cases h
  | inr v1 =>
    obtain ⟨d', i1⟩ := v1
    rw [e1] at h; dsimp only at h
    have k1 := nplt_ok hi e1
    cases e4 : nend tx l i1 with
    | inl p => rw [e4] at h; cases h
    | inr v4 =>
      obtain ⟨u', i4⟩ := v4
      rw [e4] at h; dsimp only at h
      have k4 := nend_ok (by omega) e4
      have h' := Prod.mk.inj (Sum.inr.inj h)
      obtain ⟨rfl, rfl⟩ := h'
      omega
theorem ge0 {v : Nat} (hv : v < 2147483648) {A B : Prop} (h : A) : (0 ≤ nI v → A) ∧ (¬ 0 ≤ nI v → B) := ⟨fun _ => h, fun q => absurd (nI_pos' hv) q⟩
theorem lt0 {v : Nat} (hv : v < 2147483648) {A B : Prop} (h : B) : (nI v < 0 → A) ∧ (¬ nI v < 0 → B) := ⟨fun q => absurd q (nI_pos hv), fun _ => h⟩
theorem ge9 {A B : Prop} (h : B) : (0 ≤ (-9 : Int32) → A) ∧ (¬ 0 ≤ (-9 : Int32) → B) := ⟨fun q => absurd q (by decide), fun _ => h⟩
theorem lt9 {A B : Prop} (h : A) : ((-9 : Int32) < 0 → A) ∧ (¬ (-9 : Int32) < 0 → B) := ⟨fun _ => h, fun q => absurd (by decide) q⟩
theorem is1 {A B : Prop} (h : A) : (¬ (1 : Int32) = 0 → A) ∧ ((1 : Int32) = 0 → B) := ⟨fun _ => h, fun q => absurd q (by decide)⟩
theorem is0 {A B : Prop} (h : B) : (¬ (0 : Int32) = 0 → A) ∧ ((0 : Int32) = 0 → B) := ⟨fun q => absurd rfl q, fun _ => h⟩
theorem no1 {A B : Prop} (h : B) : ((1 : Int32) = 0 → A) ∧ (¬ (1 : Int32) = 0 → B) := ⟨fun q => absurd q (by decide), fun _ => h⟩
theorem no0 {A B : Prop} (h : A) : ((0 : Int32) = 0 → A) ∧ (¬ (0 : Int32) = 0 → B) := ⟨fun _ => h, fun q => absurd rfl q⟩
section
variable {tx : Nat → Nat} {l : Nat} {f : Nat → Int32} {i : Nat} {pl tk nu : Int32}
theorem x_readReading (hT : TXT tx l f) (hi : i ≤ l) {h : HS} {n : Nat} {rate wrap : Int32} {days firsts seconds : Nat → Int32} (hn : n ≤ 10) (hc : HC h n rate wrap (nI n) days firsts seconds) {Q : Int32 → Int32 → Int32 → Int32 → Int32 → (Nat → Int32) → (Nat → Int32) → (Nat → Int32) → Int32 → Prop}
    (hfull : n = 10 → Q 0 (nI i) pl tk nu days firsts seconds (nI n))
    (h0 : n < 10 → ∀ p, prR tx l i = .inl p → ∀ at' tk nu, Q 0 at' (nI p) tk nu days firsts seconds (nI n))
    (h1 : n < 10 → ∀ d c w e, prR tx l i = .inr ((d, c, w), e) → ∀ pl tk nu D F G, HC (hIns h (pos h n d) d c w) (n + 1) rate wrap (nI (n + 1)) D F G → Q 1 (nI e) pl tk nu D F G (nI (n + 1))) : wp_X7_readReading f (nI l) (nI i) pl tk nu days firsts seconds (nI n) Q := by
  unfold wp_X7_readReading wp_X7_readReading_b64
  refine x_isFull (by decide) (by omega) (fun q => no1 (hfull (by omega))) (fun hn' => no0 ?_)
  refine x_nextNumber hT hi (a := 0) (b := 999) rfl rfl (by decide) (by decide) (fun d i1 e1 tk nu => ?_) (fun p e1 at' tk nu => ge9 (h0 hn' p (by simp only [prR, e1]) _ _ _))
  obtain ⟨k1, k2, k3, k4, k5⟩ := nnum_ok hi e1
  refine ge0 (by omega) ?_
  refine x_nextNumber hT k5 (a := 0) (b := 9999) rfl rfl (by decide) (by decide) (fun c i2 e2 tk nu => ?_) (fun p e2 at' tk nu => ge9 (h0 hn' p (by simp only [prR, e1, e2]) _ _ _))
  obtain ⟨m1, m2, m3, m4, m5⟩ := nnum_ok k5 e2
  refine ge0 (by omega) ?_
  refine x_nextNumber hT m5 (a := 1) (b := 9) rfl rfl (by decide) (by decide) (fun w i3 e3 tk nu => ?_) (fun p e3 at' tk nu => lt9 (h0 hn' p (by simp only [prR, e1, e2, e3]) _ _ _))
  obtain ⟨o1, o2, o3, o4, o5⟩ := nnum_ok m5 e3
  refine lt0 (by omega) ?_
  refine x_nextEnds hT o5 (fun u i4 e4 pl tk nu => is1 ?_) (fun p e4 at' tk nu => is0 (h0 hn' p (by simp only [prR, e1, e2, e3, e4]) _ _ _))
  refine x_hinsert hn' hc (fun D F G hc' => ?_)
  exact h1 hn' d c w i4 (by simp only [prR, e1, e2, e3, e4]) pl tk nu D F G hc'
theorem x_readChange (hT : TXT tx l f) (hi : i ≤ l) {p : PT} {start : Int32} {cd cf cs : Nat → Int32} (hb : PTB p) (hc : PC p start cd cf cs (nI (pN p))) {Q : Int32 → Int32 → Int32 → Int32 → Int32 → (Nat → Int32) → (Nat → Int32) → (Nat → Int32) → Int32 → Prop}
    (hfull : pN p = 6 → Q 0 (nI i) pl tk nu cd cf cs (nI (pN p)))
    (h0 : pN p < 6 → ∀ q, prP tx l i = .inl q → ∀ at' tk nu, Q 0 at' (nI q) tk nu cd cf cs (nI (pN p)))
    (h1 : pN p < 6 → ∀ d w t e, prP tx l i = .inr ((d, w, t), e) → ∀ pl tk nu D F G, PC (pIns p d w t) start D F G (nI (pN p + 1)) → Q 1 (nI e) pl tk nu D F G (nI (pN p + 1))) : wp_X7_readChange f (nI l) (nI i) pl tk nu cd cf cs (nI (pN p)) Q := by
  have hn : pN p ≤ 6 := hb.1
  unfold wp_X7_readChange wp_X7_readChange_b62
  refine x_isFull (by decide) (by omega) (fun q => no1 (hfull (by omega))) (fun hn' => no0 ?_)
  refine x_nextNumber hT hi (a := 0) (b := 999) rfl rfl (by decide) (by decide) (fun d i1 e1 tk nu => ?_) (fun p e1 at' tk nu => ge9 (h0 hn' p (by simp only [prP, e1]) _ _ _))
  obtain ⟨k1, k2, k3, k4, k5⟩ := nnum_ok hi e1
  refine ge0 (by omega) ?_
  refine x_nextPlate hT k5 (fun w i2 e2 tk nu => ?_) (fun p e2 at' tk nu => ge9 (h0 hn' p (by simp only [prP, e1, e2]) _ _ _))
  obtain ⟨m1, m4, m5⟩ := nplt_ok k5 e2
  refine ge0 (by omega) ?_
  refine x_nextPlate hT m5 (fun t i3 e3 tk nu => ?_) (fun p e3 at' tk nu => lt9 (h0 hn' p (by simp only [prP, e1, e2, e3]) _ _ _))
  obtain ⟨o1, o4, o5⟩ := nplt_ok m5 e3
  refine lt0 (by omega) ?_
  refine bEQ t w rfl rfl (by omega) (by omega) (fun q => h0 hn' _ (by simp only [prP, e1, e2, e3, if_pos q]) _ _ _) (fun q => ?_)
  refine x_nextEnds hT o5 (fun u i4 e4 pl tk nu => is1 ?_) (fun p e4 at' tk nu => is0 (h0 hn' p (by simp only [prP, e1, e2, e3, if_neg q, e4]) _ _ _))
  refine x_pinsert hn' hc (fun r D F G hc' => ?_)
  exact h1 hn' d w t i4 (by simp only [prP, e1, e2, e3, if_neg q, e4]) pl tk nu D F G hc'
theorem x_readRate (hT : TXT tx l f) (hi : i ≤ l) {b : Bool} {rate : Int32} {Q : Int32 → Int32 → Int32 → Int32 → Int32 → Int32 → Int32 → Prop}
    (hfull : b = true → Q 0 (nI i) pl tk nu 1 rate)
    (h0 : b = false → ∀ q, prF tx l i = .inl q → ∀ at' tk nu, Q 0 at' (nI q) tk nu 0 rate)
    (h1 : b = false → ∀ v e, prF tx l i = .inr (v, e) → ∀ pl tk nu, Q 1 (nI e) pl tk nu 1 (nI v)) : wp_X7_readRate f (nI l) (nI i) pl tk nu (bI b) rate Q := by
  unfold wp_X7_readRate wp_X7_readRate_b28
  cases hb : b with
  | true => exact no1 (hfull hb)
  | false =>
    refine no0 ?_
    refine x_nextNumber hT hi (a := 1) (b := 99) rfl rfl (by decide) (by decide) (fun d i1 e1 tk nu => ?_) (fun p e1 at' tk nu => lt9 (h0 hb p (by simp only [prF, e1]) _ _ _))
    obtain ⟨k1, k2, k3, k4, k5⟩ := nnum_ok hi e1
    refine lt0 (by omega) ?_
    exact x_nextEnds hT k5 (fun u i4 e4 pl tk nu => is1 (h1 hb d i4 (by simp only [prF, e1, e4]) _ _ _)) (fun p e4 at' tk nu => is0 (h0 hb p (by simp only [prF, e1, e4]) _ _ _))
theorem WR_v {v : Nat} (hv : v ≤ 9999) : WR (nI v) ↔ ¬ (0 < v ∧ v < 100) := by
  unfold WR
  constructor
  · rintro (c | ⟨c1, c2⟩) ⟨d1, d2⟩
    · exact nI_ne0 d1 (by omega) c
    · exact c1 (nI_lt (b := 100) d2 (by decide))
  · intro c
    by_cases d : v = 0
    · subst d; exact Or.inl rfl
    · exact Or.inr ⟨nI_nlt (b := 100) (by omega) (by omega), nI_nlt (a := 9999) (by omega) (by decide)⟩
theorem WR_9 : ¬ WR (-9) := by
  rintro (c | ⟨c1, c2⟩)
  · exact absurd c (by decide)
  · exact c1 (by decide)
theorem x_readWrap (hT : TXT tx l f) (hi : i ≤ l) {b : Bool} {wrap : Int32} {Q : Int32 → Int32 → Int32 → Int32 → Int32 → Int32 → Int32 → Prop}
    (hfull : b = true → Q 0 (nI i) pl tk nu 1 wrap)
    (h0 : b = false → ∀ q, prW tx l i = .inl q → ∀ at' tk nu, Q 0 at' (nI q) tk nu 0 wrap)
    (h1 : b = false → ∀ v e, prW tx l i = .inr (v, e) → ∀ pl tk nu, Q 1 (nI e) pl tk nu 1 (nI v)) : wp_X7_readWrap f (nI l) (nI i) pl tk nu (bI b) wrap Q := by
  unfold wp_X7_readWrap wp_X7_readWrap_b32
  cases hb : b with
  | true => exact no1 (hfull hb)
  | false =>
    refine no0 ?_
    refine x_nextNumber hT hi (a := 0) (b := 9999) rfl rfl (by decide) (by decide) (fun d i1 e1 tk nu => ?_) (fun p e1 at' tk nu => x_isWrap (fun q => absurd q WR_9) (fun _ => no0 (h0 hb p (by simp only [prW, e1]) _ _ _)))
    obtain ⟨k1, k2, k3, k4, k5⟩ := nnum_ok hi e1
    refine x_isWrap (fun q => no1 ?_) (fun q => no0 ?_)
    · have q' := (WR_v k2).mp q
      exact x_nextEnds hT k5 (fun u i4 e4 pl tk nu => is1 (h1 hb d i4 (by simp only [prW, e1, if_neg q', e4]) _ _ _)) (fun p e4 at' tk nu => is0 (h0 hb p (by simp only [prW, e1, if_neg q', e4]) _ _ _))
    · have q' : 0 < d ∧ d < 100 := Classical.byContradiction (fun c => q ((WR_v k2).mpr c))
      exact h0 hb _ (by simp only [prW, e1, if_pos q']) _ _ _
theorem x_readStart (hT : TXT tx l f) (hi : i ≤ l) {b : Bool} {start : Int32} {Q : Int32 → Int32 → Int32 → Int32 → Int32 → Int32 → Int32 → Prop}
    (hfull : b = true → Q 0 (nI i) pl tk nu 1 start)
    (h0 : b = false → ∀ q, prO tx l i = .inl q → ∀ at' tk nu, Q 0 at' (nI q) tk nu 0 start)
    (h1 : b = false → ∀ v e, prO tx l i = .inr (v, e) → ∀ pl tk nu, Q 1 (nI e) pl tk nu 1 (nI v)) : wp_X7_readStart f (nI l) (nI i) pl tk nu (bI b) start Q := by
  unfold wp_X7_readStart wp_X7_readStart_b25
  cases hb : b with
  | true => exact no1 (hfull hb)
  | false =>
    refine no0 ?_
    refine x_nextPlate hT hi (fun d i1 e1 tk nu => ?_) (fun p e1 at' tk nu => lt9 (h0 hb p (by simp only [prO, e1]) _ _ _))
    obtain ⟨k1, k4, k5⟩ := nplt_ok hi e1
    refine lt0 (by omega) ?_
    exact x_nextEnds hT k5 (fun u i4 e4 pl tk nu => is1 (h1 hb d i4 (by simp only [prO, e1, e4]) _ _ _)) (fun p e4 at' tk nu => is0 (h0 hb p (by simp only [prO, e1, e4]) _ _ _))
end
