/-! ===== items in the reference ===== -/
def oB (b : Bool × Bool × Bool) : Nat := b.1.toNat + 2 * b.2.1.toNat + 4 * b.2.2.toNat
theorem oB_lt (b : Bool × Bool × Bool) : oB b < 8 := by
  obtain ⟨b0, b1, b2⟩ := b
  cases b0 <;> cases b1 <;> cases b2 <;> decide
theorem oB_tb (b : Bool × Bool × Bool) : (oB b).testBit 0 = b.1 ∧ (oB b).testBit 1 = b.2.1 ∧ (oB b).testBit 2 = b.2.2 := by
  obtain ⟨b0, b1, b2⟩ := b
  cases b0 <;> cases b1 <;> cases b2 <;> decide
theorem oB_s0 (b1 b2 : Bool) : nI (oB (false, b1, b2)) ||| ((1 : Int32) <<< ((0 : Int32) &&& 31)) = nI (oB (true, b1, b2)) := by
  cases b1 <;> cases b2 <;> decide
theorem oB_s1 (b0 b2 : Bool) : nI (oB (b0, false, b2)) ||| ((1 : Int32) <<< ((1 : Int32) &&& 31)) = nI (oB (b0, true, b2)) := by
  cases b0 <;> cases b2 <;> decide
theorem oB_s2 (b0 b1 : Bool) : nI (oB (b0, b1, false)) ||| ((1 : Int32) <<< ((2 : Int32) &&& 31)) = nI (oB (b0, b1, true)) := by
  cases b0 <;> cases b1 <;> decide
theorem HM_upd {h : HS} {n r w : Nat} {row : Nat → Int32} (hM : HM h n row) {x y : Int32} (hx : x = nI r) (hy : y = nI w) : HM (hRul h r w) n (upd (upd row 1 x) 2 y) := by
  obtain ⟨c1, c2, c3, c4⟩ := hM
  refine ⟨?_, ?_, ?_, fun k hk => ⟨?_, ?_, ?_⟩⟩
  · rw [upd_n (by decide), upd_n (by decide)]; exact c1
  · rw [upd_n (by decide), upd_s]; exact hx
  · rw [upd_s]; exact hy
  · rw [upd_n (by omega), upd_n (by omega)]; exact (c4 k hk).1
  · rw [upd_n (by omega), upd_n (by omega)]; exact (c4 k hk).2.1
  · rw [upd_n (by omega), upd_n (by omega)]; exact (c4 k hk).2.2
theorem ok1 {x : Int32} {A : Prop} (h : x = 1) (hA : A) : (x = 0 ∨ x = 1) ∧ A := ⟨Or.inr h, hA⟩
section
variable {tx : Nat → Nat} {l : Nat} {f : Nat → Int32} {i : Nat} {pl tk nu fa : Int32}
theorem m_readsReading (hT : TXT tx l f) (hi : i ≤ l) {h : HS} {n : Nat} {read : Nat → Int32} (hn : n ≤ 10) (hM : HM h n read) {Q : Int32 → Int32 → Int32 → Int32 → Int32 → Int32 → (Nat → Int32) → Prop}
    (hfull : n = 10 → Q 0 (nI i) pl tk nu pl read)
    (h0 : n < 10 → ∀ p, prR tx l i = .inl p → ∀ a b c d, Q 0 a b c d (nI p) read)
    (h1 : n < 10 → ∀ d c w e, prR tx l i = .inr ((d, c, w), e) → ∀ a b c' fa' read', HM (hIns h (pos h n d) d c w) (n + 1) read' → Q 1 (nI e) a b c' fa' read') : wp_X9_readsReading (nI l) f (nI i) pl tk nu fa read Q := by
  unfold wp_X9_readsReading wp_X9_fails
  rw [show read (0 : Int32).toNatClampNeg = nI n from hM.1]
  refine bNE n 10 rfl rfl (by omega) (by decide) (fun q => ?_) (fun q => ⟨Or.inl rfl, hfull q⟩)
  have hn' : n < 10 := by omega
  refine m_number hT hi (a := 0) (b := 999) rfl rfl (by decide) (by decide) (fun d i1 e1 tk => is1 ?_) (fun p e1 at' pl tk nu => is0 (h0 hn' p (by simp only [prR, e1]) _ _ _ _))
  obtain ⟨k1, k2, k3, k4, k5⟩ := nnum_ok hi e1
  refine m_number hT k5 (a := 0) (b := 9999) rfl rfl (by decide) (by decide) (fun c i2 e2 tk => is1 ?_) (fun p e2 at' pl tk nu => is0 (h0 hn' p (by simp only [prR, e1, e2]) _ _ _ _))
  obtain ⟨m1, m2, m3, m4, m5⟩ := nnum_ok k5 e2
  refine m_number hT m5 (a := 1) (b := 9) rfl rfl (by decide) (by decide) (fun w i3 e3 tk => is1 ?_) (fun p e3 at' pl tk nu => is0 (h0 hn' p (by simp only [prR, e1, e2, e3]) _ _ _ _))
  obtain ⟨o1, o2, o3, o4, o5⟩ := nnum_ok m5 e3
  refine m_ends hT o5 (fun u i4 e4 pl tk nu => is1 ?_) (fun p e4 at' pl tk nu => is0 (h0 hn' p (by simp only [prR, e1, e2, e3, e4]) _ _ _ _))
  refine m_hcomes hn' hM (fun read' hM' => ?_)
  exact h1 hn' d c w i4 (by simp only [prR, e1, e2, e3, e4]) _ _ _ _ read' hM'
theorem m_changeLoop {p : PT} {start : Int32} {cd cf cs : Nat → Int32} (hn : pN p < 6) (hc : PC p start cd cf cs (nI (pN p))) {d w t : Nat} {a b c e fa : Int32} {Q : Int32 → Int32 → Int32 → Int32 → Int32 → Int32 → Int32 → (Nat → Int32) → (Nat → Int32) → (Nat → Int32) → Prop}
    (hQ : ∀ D F G : Nat → Int32, PC (pIns p d w t) start D F G (nI (pN p + 1)) → Q 1 a b c e fa (nI (pN p + 1)) D F G) : ∃ m, wp_X9_readsChange_h85 (nI l) f Q m (nI d) (nI w) (nI t) (nI (pN p)) a b c e fa (nI (pN p)) cd cf cs := by
  obtain ⟨-, c2, c3⟩ := hc
  have hp : ip cd (nI d) (pN p) = pps p d := ip_congr _ (fun i hi => (c3 i hi).1)
  have hpl : pps p d ≤ pN p := ip_le _ _ _
  have hstop : ∀ (k : Nat) (d' f' g' : Nat → Int32), k ≤ pN p → ip cd (nI d) (pN p) = k → (∀ i, i < k → d' i = cd i ∧ f' i = cf i ∧ g' i = cs i) → (∀ i, k < i → i < pN p + 1 → d' i = cd (i - 1) ∧ f' i = cf (i - 1) ∧ g' i = cs (i - 1)) → wp_X9_readsChange_b157 (nI l) f Q (nI d) (nI w) (nI t) (nI k) a b c e fa (nI (pN p)) d' f' g' := by
    intro k d' f' g' hk hip i1 i2
    unfold wp_X9_readsChange_b157
    rw [nI_cl (by omega)]
    refine ⟨vin (by omega) (by decide), vin (by omega) (by decide), vin (by omega) (by decide), ?_⟩
    intro z hz
    rw [nI_addL] at hz
    subst hz
    refine hQ _ _ _ ⟨rfl, c2, fun i hi => ?_⟩
    have hkp : k = pps p d := by rw [← hip, hp]
    have hi' : i < pN p + 1 := hi
    have g : upd d' k (nI d) i = ins cd k (nI d) i ∧ upd f' k (nI w) i = ins cf k (nI w) i ∧ upd g' k (nI t) i = ins cs k (nI t) i := by
      rcases Nat.lt_trichotomy i k with c | c | c
      · rw [upd_n (by omega), upd_n (by omega), upd_n (by omega), ins_lt c, ins_lt c, ins_lt c]; exact i1 i c
      · subst c
        rw [upd_s, upd_s, upd_s, ins_eq, ins_eq, ins_eq]; exact ⟨rfl, rfl, rfl⟩
      · rw [upd_n (by omega), upd_n (by omega), upd_n (by omega), ins_gt c, ins_gt c, ins_gt c]; exact i2 i c hi'
    obtain ⟨g1, g2, g3⟩ := g
    rw [g1, g2, g3, hkp]
    exact ⟨ins_nI hpl hi' (fun j hj => (c3 j hj).1), ins_nI hpl hi' (fun j hj => (c3 j hj).2.1), ins_nI hpl hi' (fun j hj => (c3 j hj).2.2)⟩
  have hloop : ∀ (k : Nat) (d' f' g' : Nat → Int32), k ≤ pN p → ip cd (nI d) (pN p) = ip cd (nI d) k → (∀ i, i < k → d' i = cd i ∧ f' i = cf i ∧ g' i = cs i) → (∀ i, k < i → i < pN p + 1 → d' i = cd (i - 1) ∧ f' i = cf (i - 1) ∧ g' i = cs (i - 1)) → wp_X9_readsChange_h85 (nI l) f Q (k + 1) (nI d) (nI w) (nI t) (nI k) a b c e fa (nI (pN p)) d' f' g' := by
    intro k
    induction k with
    | zero =>
      intro d' f' g' hk hip i1 i2
      rw [wp_X9_readsChange_h85]
      exact ⟨fun _ => hstop 0 d' f' g' hk hip i1 i2, fun q => absurd (show nI 0 ≤ 0 by decide) q⟩
    | succ k ih =>
      intro d' f' g' hk hip i1 i2
      rw [wp_X9_readsChange_h85]
      dsimp only
      rw [nI_pred, nI_cl (by omega), nI_cl (by omega)]
      obtain ⟨e1, e2, e3⟩ := i1 k (by omega)
      have hu : ip cd (nI d) (k + 1) = if cd k ≤ nI d then k + 1 else ip cd (nI d) k := rfl
      refine ⟨fun q => absurd q (nI_nle (by omega) (by omega)), fun _ => ⟨vin (by omega) (by omega), fun q => ?_, fun q => ⟨vin (by omega) (by omega), ?_⟩⟩⟩
      · rw [e1] at q
        rw [if_pos q] at hu
        exact hstop (k + 1) d' f' g' hk (by rw [hip, hu]) i1 i2
      · rw [e1] at q
        rw [if_neg q] at hu
        intro y1 hy1
        refine ⟨vin (by omega) (by omega), vin (by omega) (by omega), ?_⟩
        intro y2 hy2
        refine ⟨vin (by omega) (by omega), vin (by omega) (by omega), ?_⟩
        intro y3 hy3
        refine ⟨vin (by omega) (by omega), ?_⟩
        intro z hz
        rw [pk_m1] at hz
        subst hz
        refine ih _ _ _ (by omega) (by rw [hip, hu]) (fun i hi => ?_) (fun i h1 h2 => ?_)
        · rw [upd_n (by omega), upd_n (by omega), upd_n (by omega)]; exact i1 i (by omega)
        · by_cases c : i = k + 1
          · subst c
            rw [upd_s, upd_s, upd_s, Nat.add_sub_cancel, hy1, hy2, hy3]; exact ⟨e1, e2, e3⟩
          · rw [upd_n c, upd_n c, upd_n c]; exact i2 i (by omega) h2
  exact ⟨pN p + 1, hloop (pN p) cd cf cs (Nat.le_refl _) rfl (fun i _ => ⟨rfl, rfl, rfl⟩) (fun i h1 h2 => by omega)⟩
theorem m_readsChange (hT : TXT tx l f) (hi : i ≤ l) {p : PT} {start : Int32} {cd cf cs : Nat → Int32} (hb : PTB p) (hc : PC p start cd cf cs (nI (pN p))) {Q : Int32 → Int32 → Int32 → Int32 → Int32 → Int32 → Int32 → (Nat → Int32) → (Nat → Int32) → (Nat → Int32) → Prop}
    (hfull : pN p = 6 → Q 0 (nI i) pl tk nu pl (nI (pN p)) cd cf cs)
    (h0 : pN p < 6 → ∀ q, prP tx l i = .inl q → ∀ a b c d, Q 0 a b c d (nI q) (nI (pN p)) cd cf cs)
    (h1 : pN p < 6 → ∀ d w t e, prP tx l i = .inr ((d, w, t), e) → ∀ a b c fa' D F G, PC (pIns p d w t) start D F G (nI (pN p + 1)) → Q 1 (nI e) a b c fa' (nI (pN p + 1)) D F G) : wp_X9_readsChange (nI l) f (nI i) pl tk nu fa (nI (pN p)) cd cf cs Q := by
  have hn : pN p ≤ 6 := hb.1
  unfold wp_X9_readsChange wp_X9_fails
  refine bNE (pN p) 6 rfl rfl (by omega) (by decide) (fun q => ?_) (fun q => ⟨Or.inl rfl, hfull q⟩)
  have hn' : pN p < 6 := by omega
  refine m_number hT hi (a := 0) (b := 999) rfl rfl (by decide) (by decide) (fun d i1 e1 tk => is1 ?_) (fun p e1 at' pl tk nu => is0 (h0 hn' p (by simp only [prP, e1]) _ _ _ _))
  obtain ⟨k1, k2, k3, k4, k5⟩ := nnum_ok hi e1
  refine m_plate1 hT k5 (fun w i2 e2 tk => is1 ?_) (fun p e2 at' pl tk nu => is0 (h0 hn' p (by simp only [prP, e1, e2]) _ _ _ _))
  obtain ⟨m1, m4, m5⟩ := nplt_ok k5 e2
  refine m_plate1 hT m5 (fun t i3 e3 tk => is1 ?_) (fun p e3 at' pl tk nu => is0 (h0 hn' p (by simp only [prP, e1, e2, e3]) _ _ _ _))
  obtain ⟨o1, o4, o5⟩ := nplt_ok m5 e3
  refine bNE t w rfl rfl (by omega) (by omega) (fun q => ?_) (fun q => ⟨Or.inl rfl, h0 hn' _ (by simp only [prP, e1, e2, e3, if_pos q]) _ _ _ _⟩)
  refine m_ends hT o5 (fun u i4 e4 pl tk nu => is1 ?_) (fun p e4 at' pl tk nu => is0 (h0 hn' p (by simp only [prP, e1, e2, e3, if_neg q, e4]) _ _ _ _))
  exact m_changeLoop hn' hc (fun D F G hc' => h1 hn' d w t i4 (by simp only [prP, e1, e2, e3, if_neg q, e4]) _ _ _ _ D F G hc')
theorem m_once0 (hT : TXT tx l f) (hi : i ≤ l) {h : HS} {n : Nat} {read : Nat → Int32} (hM : HM h n read) {b : Bool × Bool × Bool} {start : Int32} {Q : Int32 → Int32 → Int32 → Int32 → Int32 → Int32 → (Nat → Int32) → Int32 → Int32 → Prop}
    (hfull : b.1 = true → Q 0 (nI i) pl tk nu pl read start (nI (oB b)))
    (h0 : b.1 = false → ∀ q, prF tx l i = .inl q → ∀ a b c d r s o, Q 0 a b c d (nI q) r s o)
    (h1 : b.1 = false → ∀ v e, prF tx l i = .inr (v, e) → ∀ a b' c fa' read', HM (hRul h v (hWrap h)) n read' → Q 1 (nI e) a b' c fa' read' start (nI (oB (true, b.2.1, b.2.2)))) : wp_X9_readsOnce (nI l) f (nI i) pl tk nu fa read start (nI (oB b)) 0 Q := by
  have ho := oB_lt b
  obtain ⟨t0, t1, t2⟩ := oB_tb b
  unfold wp_X9_readsOnce wp_X9_fails
  refine m_has (k := 0) (by omega) (by decide) (fun c => no1 ⟨Or.inl rfl, hfull (by rw [← t0]; exact c)⟩) (fun c => no0 ?_)
  have hb : b.1 = false := by rw [← t0]; exact c
  intro x hx
  have hx' : x = nI (oB (true, b.2.1, b.2.2)) := by
    rw [hx, show b = (false, b.2.1, b.2.2) by rw [← hb]]
    exact oB_s0 _ _
  subst hx'
  refine is0 ?_
  unfold wp_X9_readsOnce_b71 wp_X9_readsOnce_b73
  refine m_number hT hi (a := 1) (b := 99) rfl rfl (by decide) (by decide) (fun v i1 e1 tk => no1 ?_) (fun p e1 at' pl tk nu => no0 (h0 hb p (by simp only [prF, e1]) _ _ _ _ _ _ _))
  obtain ⟨k1, k2, k3, k4, k5⟩ := nnum_ok hi e1
  refine ⟨fun _ => ?_, fun q => absurd q (by decide)⟩
  unfold wp_X9_readsOnce_b95 wp_X9_readsOnce_b114 wp_X9_readsOnce_b135 wp_X9_readsOnce_b150
  refine ⟨fun q => absurd rfl q, fun _ => ⟨vin (n := 1) (by decide) (by decide), fun _ => ⟨vin (n := 2) (by decide) (by decide), fun _ => ?_, fun q => absurd q (by decide)⟩, fun q => absurd q (by decide)⟩⟩
  refine m_ends hT k5 (fun u i4 e4 pl tk nu => ok1 rfl ?_) (fun p e4 at' pl tk nu => ⟨Or.inl rfl, h0 hb p (by simp only [prF, e1, e4]) _ _ _ _ _ _ _⟩)
  refine h1 hb v i4 (by simp only [prF, e1, e4]) _ _ _ _ _ ?_
  refine HM_upd hM rfl ?_
  show upd read 1 (nI v) 2 = _
  rw [upd_n (by decide)]; exact hM.2.2.1
theorem m_once1 (hT : TXT tx l f) (hi : i ≤ l) {h : HS} {n : Nat} {read : Nat → Int32} (hM : HM h n read) {b : Bool × Bool × Bool} {start : Int32} {Q : Int32 → Int32 → Int32 → Int32 → Int32 → Int32 → (Nat → Int32) → Int32 → Int32 → Prop}
    (hfull : b.2.1 = true → Q 0 (nI i) pl tk nu pl read start (nI (oB b)))
    (h0 : b.2.1 = false → ∀ q, prW tx l i = .inl q → ∀ a b c d r s o, Q 0 a b c d (nI q) r s o)
    (h1 : b.2.1 = false → ∀ v e, prW tx l i = .inr (v, e) → ∀ a b' c fa' read', HM (hRul h (hRate h) v) n read' → Q 1 (nI e) a b' c fa' read' start (nI (oB (b.1, true, b.2.2)))) : wp_X9_readsOnce (nI l) f (nI i) pl tk nu fa read start (nI (oB b)) 1 Q := by
  have ho := oB_lt b
  obtain ⟨t0, t1, t2⟩ := oB_tb b
  unfold wp_X9_readsOnce wp_X9_fails
  refine m_has (k := 1) (by omega) (by decide) (fun c => no1 ⟨Or.inl rfl, hfull (by rw [← t1]; exact c)⟩) (fun c => no0 ?_)
  have hb : b.2.1 = false := by rw [← t1]; exact c
  intro x hx
  have hx' : x = nI (oB (b.1, true, b.2.2)) := by
    rw [hx, show b = (b.1, false, b.2.2) by rw [← hb]]
    exact oB_s1 _ _
  subst hx'
  refine is1 ⟨fun q => absurd rfl q, fun _ => ?_⟩
  unfold wp_X9_readsOnce_b71 wp_X9_readsOnce_b73 wp_X9_fails
  refine m_number hT hi (a := 0) (b := 9999) rfl rfl (by decide) (by decide) (fun v i1 e1 tk => no1 ?_) (fun p e1 at' pl tk nu => no0 (h0 hb p (by simp only [prW, e1]) _ _ _ _ _ _ _))
  obtain ⟨k1, k2, k3, k4, k5⟩ := nnum_ok hi e1
  refine ⟨fun q => absurd rfl q, fun _ => ?_⟩
  refine m_isWrap (fun q => is1 ?_) (fun q => is0 ⟨Or.inl rfl, ?_⟩)
  · have q' := (WR_v k2).mp q
    unfold wp_X9_readsOnce_b95 wp_X9_readsOnce_b114 wp_X9_readsOnce_b135 wp_X9_readsOnce_b150
    refine ⟨fun _ => ⟨vin (n := 1) (by decide) (by decide), fun q => absurd rfl q, fun _ => ⟨vin (n := 2) (by decide) (by decide), fun _ => ?_, fun q => absurd q (by decide)⟩⟩, fun q => absurd q (by decide)⟩
    refine m_ends hT k5 (fun u i4 e4 pl tk nu => ok1 rfl ?_) (fun p e4 at' pl tk nu => ⟨Or.inl rfl, h0 hb p (by simp only [prW, e1, if_neg q', e4]) _ _ _ _ _ _ _⟩)
    refine h1 hb v i4 (by simp only [prW, e1, if_neg q', e4]) _ _ _ _ _ ?_
    exact HM_upd hM hM.2.1 rfl
  · have q' : 0 < v ∧ v < 100 := Classical.byContradiction (fun c => q ((WR_v k2).mpr c))
    exact h0 hb _ (by simp only [prW, e1, if_pos q']) _ _ _ _ _ _ _
theorem m_once2 (hT : TXT tx l f) (hi : i ≤ l) {h : HS} {n : Nat} {read : Nat → Int32} (hM : HM h n read) {b : Bool × Bool × Bool} {start : Int32} {Q : Int32 → Int32 → Int32 → Int32 → Int32 → Int32 → (Nat → Int32) → Int32 → Int32 → Prop}
    (hfull : b.2.2 = true → Q 0 (nI i) pl tk nu pl read start (nI (oB b)))
    (h0 : b.2.2 = false → ∀ q, prO tx l i = .inl q → ∀ a b c d r s o, Q 0 a b c d (nI q) r s o)
    (h1 : b.2.2 = false → ∀ v e, prO tx l i = .inr (v, e) → ∀ a b' c fa' read', HM h n read' → Q 1 (nI e) a b' c fa' read' (nI v) (nI (oB (b.1, b.2.1, true)))) : wp_X9_readsOnce (nI l) f (nI i) pl tk nu fa read start (nI (oB b)) 2 Q := by
  have ho := oB_lt b
  obtain ⟨t0, t1, t2⟩ := oB_tb b
  unfold wp_X9_readsOnce wp_X9_fails
  refine m_has (k := 2) (by omega) (by decide) (fun c => no1 ⟨Or.inl rfl, hfull (by rw [← t2]; exact c)⟩) (fun c => no0 ?_)
  have hb : b.2.2 = false := by rw [← t2]; exact c
  intro x hx
  have hx' : x = nI (oB (b.1, b.2.1, true)) := by
    rw [hx, show b = (b.1, b.2.1, false) by rw [← hb]]
    exact oB_s2 _ _
  subst hx'
  refine ⟨fun _ => ⟨fun _ => ?_, fun q => absurd q (by decide)⟩, fun q => absurd q (by decide)⟩
  unfold wp_X9_readsOnce_b71 wp_X9_readsOnce_b73
  refine m_plate1 hT hi (fun v i1 e1 tk => is1 ?_) (fun p e1 at' pl tk nu => is0 (h0 hb p (by simp only [prO, e1]) _ _ _ _ _ _ _))
  obtain ⟨k1, k4, k5⟩ := nplt_ok hi e1
  refine ⟨fun _ => ?_, fun q => absurd q (by decide)⟩
  unfold wp_X9_readsOnce_b95 wp_X9_readsOnce_b114 wp_X9_readsOnce_b135 wp_X9_readsOnce_b150
  refine ⟨fun _ => ⟨vin (n := 1) (by decide) (by decide), fun _ => ⟨vin (n := 2) (by decide) (by decide), fun q => absurd rfl q, fun _ => ?_⟩, fun q => absurd q (by decide)⟩, fun q => absurd q (by decide)⟩
  refine m_ends hT k5 (fun u i4 e4 pl tk nu => ok1 rfl ?_) (fun p e4 at' pl tk nu => ⟨Or.inl rfl, h0 hb p (by simp only [prO, e1, e4]) _ _ _ _ _ _ _⟩)
  refine h1 hb v i4 (by simp only [prO, e1, e4]) _ _ _ _ _ ?_
  have := HM_upd (r := hRate h) (w := hWrap h) hM (x := read 1) (y := upd read 1 (read 1) 2) hM.2.1 (by rw [upd_n (by decide)]; exact hM.2.2.1)
  exact this
end
