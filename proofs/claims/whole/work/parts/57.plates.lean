/-! ===== plates ===== -/
def fb (x y : Option (Nat × Nat)) : Option (Nat × Nat) := match x, y with
  | none, y => y
  | some a, none => some a
  | some a, some b => if a.1 < b.1 then some b else some a
def fbs (v : Nat → Option (Nat × Nat)) : Nat → Option (Nat × Nat)
  | 0 => none
  | N + 1 => fb (fbs v N) (v N)
theorem fb_assoc (x y z : Option (Nat × Nat)) : fb (fb x y) z = fb x (fb y z) := by
  cases x with
  | none => rfl
  | some a =>
    cases y with
    | none => rfl
    | some b =>
      cases z with
      | none =>
        unfold fb
        by_cases h : a.1 < b.1
        · simp only [if_pos h]
        · simp only [if_neg h]
      | some c =>
        unfold fb
        by_cases h1 : a.1 < b.1
        · by_cases h2 : b.1 < c.1
          · simp only [if_pos h1, if_pos h2, if_pos (show a.1 < c.1 by omega)]
          · simp only [if_pos h1, if_neg h2]
        · by_cases h2 : b.1 < c.1
          · simp only [if_neg h1, if_pos h2]
          · simp only [if_neg h1, if_neg h2, if_neg (show ¬ a.1 < c.1 by omega)]
theorem fbs_add (v : Nat → Option (Nat × Nat)) (A : Nat) : ∀ B, fbs v (A + B) = fb (fbs v A) (fbs (fun c => v (A + c)) B)
  | 0 => by
    show fbs v A = fb (fbs v A) none
    cases fbs v A <;> rfl
  | B + 1 => by
    show fb (fbs v (A + B)) (v (A + B)) = fb (fbs v A) (fb (fbs (fun c => v (A + c)) B) (v (A + B)))
    rw [fbs_add v A B, fb_assoc]
theorem fbs_congr {v w : Nat → Option (Nat × Nat)} : ∀ (N : Nat), (∀ c, c < N → v c = w c) → fbs v N = fbs w N
  | 0, _ => rfl
  | N + 1, h => by
    show fb (fbs v N) (v N) = fb (fbs w N) (w N)
    rw [fbs_congr N (fun c hc => h c (by omega)), h N (by omega)]
theorem fbs_none : ∀ (N : Nat), fbs (fun _ => none) N = none
  | 0 => rfl
  | N + 1 => by show fb (fbs _ N) none = none; rw [fbs_none N]; rfl
theorem fb_sh (b : Nat) (x y : Option (Nat × Nat)) : (fb x y).map (fun q => (q.1 + 1, q.2 ||| b)) = fb (x.map (fun q => (q.1 + 1, q.2 ||| b))) (y.map (fun q => (q.1 + 1, q.2 ||| b))) := by
  cases x with
  | none => rfl
  | some a =>
    cases y with
    | none => rfl
    | some c =>
      show (if a.1 < c.1 then some c else some a).map _ = (if a.1 + 1 < c.1 + 1 then some (c.1 + 1, c.2 ||| b) else some (a.1 + 1, a.2 ||| b))
      by_cases h : a.1 < c.1
      · rw [if_pos h, if_pos (by omega)]; rfl
      · rw [if_neg h, if_neg (by omega)]; rfl
theorem fbs_sh (b : Nat) (v : Nat → Option (Nat × Nat)) : ∀ (N : Nat), fbs (fun c => (v c).map (fun q => (q.1 + 1, q.2 ||| b))) N = (fbs v N).map (fun q => (q.1 + 1, q.2 ||| b))
  | 0 => rfl
  | N + 1 => by
    show fb (fbs _ N) ((v N).map _) = (fb (fbs v N) (v N)).map _
    rw [fbs_sh b v N, fb_sh]
/-- the best sets of changes from one on, by the plate; the first of them -/
def PP (w t : Nat → Nat) : Nat → Nat → Nat → Nat × Nat
  | 0, _, _ => (0, 0)
  | r + 1, k, p => if w k = p ∧ ¬ ((PP w t r (k + 1) (t k)).1 + 1 < (PP w t r (k + 1) p).1) then ((PP w t r (k + 1) (t k)).1 + 1, (PP w t r (k + 1) (t k)).2 ||| 2 ^ k) else PP w t r (k + 1) p
def pv (w t : Nat → Nat) : Nat → Nat → Nat → Nat → Option (Nat × Nat)
  | 0, _, _, _ => some (0, 0)
  | r + 1, k, p, c => if c < 2 ^ r then (if w k = p then (pv w t r (k + 1) (t k) c).map (fun q => (q.1 + 1, q.2 ||| 2 ^ k)) else none) else pv w t r (k + 1) p (c - 2 ^ r)
theorem fbs_pv (w t : Nat → Nat) : ∀ (r k p : Nat), fbs (pv w t r k p) (2 ^ r) = some (PP w t r k p)
  | 0, _, _ => rfl
  | r + 1, k, p => by
    have hp : 2 ^ (r + 1) = 2 ^ r + 2 ^ r := by rw [Nat.pow_succ]; omega
    rw [hp, fbs_add]
    have e2 : ∀ c, c < 2 ^ r → pv w t (r + 1) k p (2 ^ r + c) = pv w t r (k + 1) p c := by
      intro c _
      show (if 2 ^ r + c < 2 ^ r then _ else pv w t r (k + 1) p (2 ^ r + c - 2 ^ r)) = _
      rw [if_neg (by omega), Nat.add_sub_cancel_left]
    rw [fbs_congr (2 ^ r) (v := fun c => pv w t (r + 1) k p (2 ^ r + c)) e2, fbs_pv w t r (k + 1) p]
    by_cases c : w k = p
    · have e1 : ∀ c, c < 2 ^ r → pv w t (r + 1) k p c = (pv w t r (k + 1) (t k) c).map (fun q => (q.1 + 1, q.2 ||| 2 ^ k)) := by
        intro d hd
        show (if d < 2 ^ r then (if w k = p then _ else none) else _) = _
        rw [if_pos hd, if_pos c]
      rw [fbs_congr (2 ^ r) e1, fbs_sh, fbs_pv w t r (k + 1) (t k)]
      show (if (PP w t r (k + 1) (t k)).1 + 1 < (PP w t r (k + 1) p).1 then some (PP w t r (k + 1) p) else some ((PP w t r (k + 1) (t k)).1 + 1, (PP w t r (k + 1) (t k)).2 ||| 2 ^ k)) = some (if w k = p ∧ ¬ ((PP w t r (k + 1) (t k)).1 + 1 < (PP w t r (k + 1) p).1) then _ else _)
      by_cases d : (PP w t r (k + 1) (t k)).1 + 1 < (PP w t r (k + 1) p).1
      · rw [if_pos d, if_neg (fun q => q.2 d)]
      · rw [if_neg d, if_pos ⟨c, d⟩]
    · have e1 : ∀ c, c < 2 ^ r → pv w t (r + 1) k p c = none := by
        intro d hd
        show (if d < 2 ^ r then (if w k = p then _ else none) else _) = _
        rw [if_pos hd, if_neg c]
      rw [fbs_congr (2 ^ r) e1, fbs_none]
      show some (PP w t r (k + 1) p) = some (if w k = p ∧ ¬ ((PP w t r (k + 1) (t k)).1 + 1 < (PP w t r (k + 1) p).1) then _ else _)
      rw [if_neg (fun q => c q.1)]
theorem PP_le (w t : Nat → Nat) : ∀ (r k p : Nat), (PP w t r k p).1 ≤ r
  | 0, _, _ => Nat.le_refl _
  | r + 1, k, p => by
    have h1 := PP_le w t r (k + 1) (t k)
    have h2 := PP_le w t r (k + 1) p
    unfold PP
    split
    · show _ + 1 ≤ _; omega
    · omega
theorem PP_tb (w t : Nat → Nat) : ∀ (r k p i : Nat), (PP w t r k p).2.testBit i = true → k ≤ i ∧ i < k + r
  | 0, k, p, i, h => by
    have h' : (0 : Nat).testBit i = true := h
    rw [Nat.zero_testBit] at h'; cases h'
  | r + 1, k, p, i, h => by
    unfold PP at h
    split at h
    · dsimp only at h
      rw [Nat.testBit_or, Bool.or_eq_true] at h
      rcases h with h | h
      · have := PP_tb w t r (k + 1) (t k) i h; omega
      · rw [Nat.testBit_two_pow, decide_eq_true_eq] at h
        omega
    · have := PP_tb w t r (k + 1) p i h; omega
theorem PP_lt {w t : Nat → Nat} {n s : Nat} (hn : n ≤ 6) : (PP w t n 0 s).2 < 64 := by
  apply Nat.lt_pow_two_of_testBit (n := 6)
  intro i hi
  cases c : (PP w t n 0 s).2.testBit i with
  | false => rfl
  | true => have := PP_tb w t n 0 s i c; omega
theorem pb_set_b : (List.range 64).all (fun T => (List.range 6).all (fun k => T.testBit k || Nat.beq (pb (T ||| 2 ^ k)) (pb T + 1))) = true := by decide +kernel
theorem pb_set {T k : Nat} (hT : T < 64) (hk : k < 6) (h : T.testBit k = false) : pb (T ||| 2 ^ k) = pb T + 1 := by
  have := all2 pb_set_b hT hk
  rw [h, Bool.false_or] at this
  exact Nat.eq_of_beq_eq_true this
theorem PP_lt2 {w t : Nat → Nat} {r k p : Nat} (hn : k + r ≤ 6) : (PP w t r k p).2 < 64 := by
  apply Nat.lt_pow_two_of_testBit (n := 6)
  intro i hi
  cases c : (PP w t r k p).2.testBit i with
  | false => rfl
  | true => have := PP_tb w t r k p i c; omega
theorem PP_pb (w t : Nat → Nat) : ∀ (r k p : Nat), k + r ≤ 6 → pb (PP w t r k p).2 = (PP w t r k p).1
  | 0, _, _, _ => by show pb 0 = 0; decide
  | r + 1, k, p, h => by
    have h1 := PP_pb w t r (k + 1) (t k) (by omega)
    have h2 := PP_pb w t r (k + 1) p (by omega)
    have h3 : (PP w t r (k + 1) (t k)).2.testBit k = false := by
      cases c : (PP w t r (k + 1) (t k)).2.testBit k with
      | false => rfl
      | true => have := PP_tb w t r (k + 1) (t k) k c; omega
    unfold PP
    split
    · show pb ((PP w t r (k + 1) (t k)).2 ||| 2 ^ k) = (PP w t r (k + 1) (t k)).1 + 1
      rw [pb_set (PP_lt2 (by omega)) (by omega) h3, h1]
    · exact h2
/-- bounds of plates -/
def PB (w t : Nat → Nat) (n s : Nat) : Prop := n ≤ 6 ∧ s < 8 ∧ ∀ k, k < n → w k < 8 ∧ t k < 8
section
variable {w t : Nat → Nat} {n s : Nat} {cf cs : Nat → Int32}
theorem x_mostFrom {pm : Nat → Int32} {k p : Nat} (hk : k < 7) (hp : p < 8) {Q : Int32 → Prop} (hQ : Q (pm (k * 8 + p))) : wp_X4_mostFrom pm (nI k) (nI p) Q := by
  unfold wp_X4_mostFrom
  rw [nI_mulL, nI_add, nI_cl (show k * 8 + p < 2147483648 by omega)]
  exact ⟨vin (show k * 8 + p < 56 by omega) (by decide), hQ⟩
theorem x_isLink {k p : Nat} (hk : k < 6) (hw : w k < 8) (hp : p < 8) (hc : cf k = nI (w k)) {Q : Int32 → Prop} (h1 : w k = p → Q 1) (h0 : w k ≠ p → Q 0) : wp_X4_isLink cf (nI k) (nI p) Q := by
  unfold wp_X4_isLink wp_X4_isLink_b18
  rw [nI_cl (by omega), hc]
  refine ⟨vin hk (by decide), ?_⟩
  exact bNE (w k) p rfl rfl (by omega) (by omega) (fun q => ⟨Or.inl rfl, h0 q⟩) (fun q => ⟨Or.inr rfl, h1 q⟩)
theorem x_withLink {pm : Nat → Int32} {k g : Nat} (hk : k < 6) (ht : t k < 8) (hc : cs k = nI (t k)) (hg : pm ((k + 1) * 8 + t k) = nI g) {Q : Int32 → Prop} (hQ : Q (nI (g + 1))) : wp_X4_withLink pm cs (nI k) Q := by
  unfold wp_X4_withLink
  rw [nI_cl (by omega), hc, nI_addL]
  refine ⟨vin hk (by decide), ?_⟩
  refine x_mostFrom (by omega) ht ?_
  rw [hg]
  have e : (1 : Int32) + nI g = nI (g + 1) := by
    have := nI_add 1 g
    rw [Nat.add_comm 1 g] at this
    exact this
  rw [e]
  exact hQ
def PM (w t : Nat → Nat) (n : Nat) (pm : Nat → Int32) (k : Nat) : Prop := ∀ i p, k ≤ i → i ≤ n → p < 8 → pm (i * 8 + p) = nI (PP w t (n - i) i p).1
theorem x_backwards (hb : PB w t n s) (hf : ∀ k, k < n → cf k = nI (w k)) (hs : ∀ k, k < n → cs k = nI (t k)) {pm : Nat → Int32} {Q : (Nat → Int32) → Prop} (hQ : ∀ pm, PM w t n pm 0 → Q pm) : wp_X4_countBackward cf cs (nI n) pm Q := by
  obtain ⟨hn, -, hwt⟩ := hb
  unfold wp_X4_countBackward
  refine x_fill (by decide) (fun f0 hf0 => ?_)
  intro y hy
  have hin : ∀ {K : Int32 → (Nat → Int32) → Prop} (k : Nat), k < n → (∀ pm, PM w t n pm k → K (nI k + (-1)) pm) → ∀ (d p : Nat) (pm : Nat → Int32), p + d = 8 → PM w t n pm (k + 1) → (∀ q, q < p → pm (k * 8 + q) = nI (PP w t (n - k) k q).1) → wp_X4_countBackward_h24 cf cs (nI n) Q K (d + 1) (nI k) (nI p) pm := by
    intro K k hk hK d
    obtain ⟨hw, ht⟩ := hwt k hk
    induction d with
    | zero =>
      intro p pm hp i1 i2
      have : p = 8 := by omega
      subst this
      rw [wp_X4_countBackward_h24]
      refine bLE 8 8 rfl rfl (by decide) (by decide) (fun _ => ?_) (fun q => by omega)
      intro z hz
      subst hz
      refine hK pm (fun i p h1 h2 h3 => ?_)
      by_cases e : i = k
      · subst e; exact i2 p h3
      · exact i1 i p (by omega) h2 h3
    | succ d ih =>
      intro p pm hp i1 i2
      rw [wp_X4_countBackward_h24]
      refine bLE 8 p rfl rfl (by decide) (by omega) (fun q => by omega) (fun _ => ?_)
      rw [nI_addL]
      refine x_mostFrom (by omega) (by omega) ?_
      have e1 := i1 (k + 1) p (by omega) (by omega) (by omega)
      have e2 := i1 (k + 1) (t k) (by omega) (by omega) ht
      have hPP : PP w t (n - k) k p = if w k = p ∧ ¬ ((PP w t (n - (k + 1)) (k + 1) (t k)).1 + 1 < (PP w t (n - (k + 1)) (k + 1) p).1) then ((PP w t (n - (k + 1)) (k + 1) (t k)).1 + 1, (PP w t (n - (k + 1)) (k + 1) (t k)).2 ||| 2 ^ k) else PP w t (n - (k + 1)) (k + 1) p := by
        rw [show n - k = (n - (k + 1)) + 1 by omega]; rfl
      have hnext : ∀ v : Int32, v = nI (PP w t (n - k) k p).1 → wp_X4_countBackward_b71 cf cs (nI n) Q K (fun y0 y1 y2 => wp_X4_countBackward_h24 cf cs (nI n) Q K (d + 1) y0 y1 y2) v ((nI k * (8 : Int32)) + nI p) (nI k) (nI p) pm := by
        intro v hv
        unfold wp_X4_countBackward_b71
        rw [nI_mulL, nI_add, nI_cl (show k * 8 + p < 2147483648 by omega)]
        refine ⟨vin (show k * 8 + p < 56 by omega) (by decide), ?_⟩
        intro z hz
        rw [nI_1] at hz
        subst hz
        refine ih (p + 1) _ (by omega) (fun i q h1 h2 h3 => ?_) (fun q hq => ?_)
        · show upd pm (k * 8 + p) v (i * 8 + q) = _
          rw [upd_n (by omega)]
          exact i1 i q h1 h2 h3
        · by_cases e : q = p
          · subst e
            show upd pm (k * 8 + q) v (k * 8 + q) = _
            rw [upd_s]; exact hv
          · show upd pm (k * 8 + p) v (k * 8 + q) = _
            rw [upd_n (by omega)]
            exact i2 q (by omega)
      have b1 := PP_le w t (n - (k + 1)) (k + 1) (t k)
      have b2 := PP_le w t (n - (k + 1)) (k + 1) p
      refine x_isLink (w := w) (by omega) hw (by omega) (hf k hk) (fun c => ?_) (fun c => ?_)
      · refine ⟨fun q => absurd q (by decide), fun _ => ?_⟩
        refine x_withLink (t := t) (by omega) ht (hs k hk) e2 ?_
        intro z hz
        refine hnext z ?_
        rw [e1] at hz
        rw [hz]
        by_cases d : (PP w t (n - (k + 1)) (k + 1) (t k)).1 + 1 < (PP w t (n - (k + 1)) (k + 1) p).1
        · rw [if_neg (nI_nlt (by omega) (by omega)), hPP, if_neg (fun q => q.2 d)]
        · by_cases d2 : (PP w t (n - (k + 1)) (k + 1) p).1 < (PP w t (n - (k + 1)) (k + 1) (t k)).1 + 1
          · rw [if_pos (nI_lt d2 (by omega)), hPP, if_pos ⟨c, d⟩]
          · rw [if_neg (nI_nlt (by omega) (by omega)), hPP, if_pos ⟨c, d⟩]
            congr 1
            show (PP w t (n - (k + 1)) (k + 1) p).1 = (PP w t (n - (k + 1)) (k + 1) (t k)).1 + 1
            omega
      · refine ⟨fun _ => hnext _ ?_, fun q => absurd rfl q⟩
        rw [hPP, if_neg (fun q => c q.1)]
        exact e1
  have hout : ∀ (k : Nat) (pm : Nat → Int32), k ≤ n → PM w t n pm k → wp_X4_countBackward_h18 cf cs (nI n) Q (k + 1) (nI k + (-1)) pm := by
    intro k
    induction k with
    | zero =>
      intro pm hk hpm
      rw [wp_X4_countBackward_h18]
      exact ⟨fun _ => hQ pm hpm, fun q => absurd (show nI 0 + (-1) < 0 by decide) q⟩
    | succ k ih =>
      intro pm hk hpm
      rw [wp_X4_countBackward_h18, pk_m1]
      refine ⟨fun q => absurd q (nI_pos (by omega)), fun _ => ⟨9, hin k (by omega) (fun pm hpm => ih pm (by omega) hpm) 8 0 pm rfl hpm (fun q hq => absurd hq (Nat.not_lt_zero q))⟩⟩
  have hy' : y = nI n + (-1) := by rw [hy, Int32.sub_eq_add_neg]
  subst hy'
  refine ⟨n + 1, hout n f0 (Nat.le_refl _) (fun i p h1 h2 h3 => ?_)⟩
  have : i = n := by omega
  subst this
  rw [Nat.sub_self, hf0 (i * 8 + p) (by omega)]
  rfl
def FH (w t : Nat → Nat) (n s : Nat) (ph : Nat → Int32) (hia : Int32) : Prop := (∀ k, k < n → ph k = if (PP w t n 0 s).2.testBit k then 1 else 0) ∧ hia = nI (PP w t n 0 s).1
theorem nar_b1 : vp_nar .boolean 1 = 1 := by decide
theorem nar_b0 : vp_nar .boolean 0 = 0 := by decide
theorem x_follow (hb : PB w t n s) (hf : ∀ k, k < n → cf k = nI (w k)) (hs : ∀ k, k < n → cs k = nI (t k)) {ph pm : Nat → Int32} {hia : Int32} {Q : (Nat → Int32) → (Nat → Int32) → Int32 → Prop} (hQ : ∀ ph pm hia, FH w t n s ph hia → Q ph pm hia) : wp_X4_follow (nI s) cf cs (nI n) ph pm hia Q := by
  unfold wp_X4_follow
  refine x_backwards hb hf hs (fun pm hpm => ?_)
  obtain ⟨hn, hs8, hwt⟩ := hb
  have hloop : ∀ (d k p c : Nat) (ph : Nat → Int32), k + d = n → p < 8 → (∀ i, i < k → ph i = if (PP w t n 0 s).2.testBit i then 1 else 0) → (∀ i, k ≤ i → (PP w t n 0 s).2.testBit i = (PP w t (n - k) k p).2.testBit i) → c + (PP w t (n - k) k p).1 = (PP w t n 0 s).1 → wp_X4_follow_h16 (nI s) cf cs (nI n) Q (d + 1) (nI p) (nI k) ph pm (nI c) := by
    intro d
    induction d with
    | zero =>
      intro k p c ph hk hp i1 i2 i3
      have : k = n := by omega
      subst this
      rw [wp_X4_follow_h16]
      refine bLE k k rfl rfl (by omega) (by omega) (fun _ => ?_) (fun q => by omega)
      rw [Nat.sub_self] at i3
      refine hQ ph pm _ ⟨i1, ?_⟩
      rw [← i3]; rfl
    | succ d ih =>
      intro k p c ph hk hp i1 i2 i3
      have hkn : k < n := by omega
      obtain ⟨hw, ht⟩ := hwt k hkn
      have hPP : PP w t (n - k) k p = if w k = p ∧ ¬ ((PP w t (n - (k + 1)) (k + 1) (t k)).1 + 1 < (PP w t (n - (k + 1)) (k + 1) p).1) then ((PP w t (n - (k + 1)) (k + 1) (t k)).1 + 1, (PP w t (n - (k + 1)) (k + 1) (t k)).2 ||| 2 ^ k) else PP w t (n - (k + 1)) (k + 1) p := by
        rw [show n - k = (n - (k + 1)) + 1 by omega]; rfl
      have b1 := PP_le w t (n - (k + 1)) (k + 1) (t k)
      have b2 := PP_le w t (n - (k + 1)) (k + 1) p
      have htb : ∀ q, (PP w t (n - (k + 1)) (k + 1) q).2.testBit k = false := by
        intro q
        cases c : (PP w t (n - (k + 1)) (k + 1) q).2.testBit k with
        | false => rfl
        | true => have := PP_tb w t (n - (k + 1)) (k + 1) q k c; omega
      rw [wp_X4_follow_h16]
      refine bLE n k rfl rfl (by omega) (by omega) (fun q => by omega) (fun _ => ?_)
      have hno : ¬ (w k = p ∧ ¬ ((PP w t (n - (k + 1)) (k + 1) (t k)).1 + 1 < (PP w t (n - (k + 1)) (k + 1) p).1)) → wp_X4_follow_b61 (nI s) cf cs (nI n) Q (fun y0 y1 y2 y3 y4 => wp_X4_follow_h16 (nI s) cf cs (nI n) Q (d + 1) y0 y1 y2 y3 y4) (nI k) (nI p) (nI k) ph pm (nI c) := by
        intro q
        rw [if_neg q] at hPP
        rw [hPP] at i2 i3
        unfold wp_X4_follow_b61 wp_X4_follow_b62 wp_X4_follow_b92
        rw [nI_cl (by omega), nar_b0, upd_s]
        refine ⟨vin (by omega) (by decide), vin (by omega) (by decide), fun _ => ?_, fun q => absurd rfl q⟩
        intro z hz
        rw [nI_1] at hz
        subst hz
        refine ih (k + 1) p c _ (by omega) hp (fun i hi => ?_) (fun i hi => i2 i (by omega)) i3
        by_cases e : i = k
        · subst e
          rw [upd_s, i2 i (Nat.le_refl _), htb p]; rfl
        · rw [upd_n e]; exact i1 i (by omega)
      refine x_isLink (w := w) (by omega) hw hp (hf k hkn) (fun q => ?_) (fun q => ⟨fun _ => hno (fun e => q e.1), fun q => absurd rfl q⟩)
      refine ⟨fun q => absurd q (by decide), fun _ => ?_⟩
      refine x_withLink (t := t) (by omega) ht (hs k hkn) (hpm (k + 1) (t k) (by omega) (by omega) ht) ?_
      rw [nI_addL]
      refine x_mostFrom (by omega) hp ?_
      rw [hpm (k + 1) p (by omega) (by omega) hp]
      refine bLT ((PP w t (n - (k + 1)) (k + 1) (t k)).1 + 1) (PP w t (n - (k + 1)) (k + 1) p).1 rfl rfl (by omega) (by omega) (fun q2 => hno (fun e => e.2 q2)) (fun q2 => ?_)
      rw [if_pos ⟨q, by omega⟩] at hPP
      rw [hPP] at i2 i3
      unfold wp_X4_follow_b62 wp_X4_follow_b92
      rw [nI_cl (by omega), nar_b1, upd_s]
      refine ⟨vin (by omega) (by decide), vin (by omega) (by decide), fun q => absurd q (by decide), fun _ => ⟨vin (by omega) (by decide), ?_⟩⟩
      intro y1 hy1 y2 hy2 z hz
      rw [hs k hkn] at hy1
      rw [nI_addL] at hy2
      rw [nI_1] at hz
      subst hy1; subst hy2; subst hz
      dsimp only at i2 i3
      refine ih (k + 1) (t k) (c + 1) _ (by omega) ht (fun i hi => ?_) (fun i hi => ?_) (by omega)
      · by_cases e : i = k
        · subst e
          rw [upd_s, i2 i (Nat.le_refl _), Nat.testBit_or, Nat.testBit_two_pow_self, Bool.or_true]; rfl
        · rw [upd_n e]; exact i1 i (by omega)
      · rw [i2 i (by omega), Nat.testBit_or, Nat.testBit_two_pow]
        rw [show decide (k = i) = false by rw [decide_eq_false_iff_not]; omega, Bool.or_false]
  exact ⟨n + 1, hloop n 0 s 0 ph (by omega) hs8 (fun i hi => absurd hi (Nat.not_lt_zero i)) (fun i _ => rfl) (Nat.zero_add _)⟩
end
