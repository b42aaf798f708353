/-! ===== sets of readings ===== -/
def sub (T S : Nat) : Prop := ∀ i, T.testBit i = true → S.testBit i = true
theorem clr_bit : ∀ k, k < 10 → ∀ i, i < 10 → (1023 - 2 ^ k).testBit i = decide (i ≠ k) := by decide +kernel
theorem tb_hi {S i : Nat} (hS : S < 1024) (hi : 10 ≤ i) : S.testBit i = false := Nat.testBit_lt_two_pow (Nat.lt_of_lt_of_le hS (Nat.pow_le_pow_right (n := 2) (i := 10) (by decide) hi))
theorem clr_tb {S k i : Nat} (hS : S < 1024) (hk : k < 10) : (clr S k).testBit i = (S.testBit i && decide (i ≠ k)) := by
  unfold clr
  rw [Nat.testBit_and]
  rcases Nat.lt_or_ge i 10 with hi | hi
  · rw [clr_bit k hk i hi]
  · rw [tb_hi hS hi]; rfl
theorem cls_up {f : Nat → Nat} : ∀ (k S T : Nat), k ≤ 10 → S < 1024 → sub T S → (∀ i, k ≤ i → T.testBit i = S.testBit i) → f T ≤ cls f k S
  | 0, S, T, _, _, _, h2 => by
    have : T = S := Nat.eq_of_testBit_eq (fun i => h2 i (Nat.zero_le i))
    rw [this]; exact Nat.le_refl _
  | k + 1, S, T, hk, hS, h1, h2 => by
    show f T ≤ max (cls f k S) (cls f k (clr S k))
    by_cases e : T.testBit k = S.testBit k
    · have := cls_up (f := f) k S T (by omega) hS h1 (fun i hi => by
        by_cases q : i = k
        · rw [q]; exact e
        · exact h2 i (by omega))
      omega
    · have hl := clr_le S k
      have := cls_up (f := f) k (clr S k) T (by omega) (by omega) (fun i hi => by
        rw [clr_tb hS (by omega), h1 i hi, Bool.true_and, decide_eq_true_eq]
        intro q
        subst q
        exact e (by rw [hi, h1 i hi])) (fun i hi => by
        rw [clr_tb hS (by omega)]
        by_cases q : i = k
        · subst q
          have : T.testBit i = false := by
            cases ht : T.testBit i with
            | false => rfl
            | true => exact absurd (by rw [ht, h1 i ht]) e
          rw [this]; simp
        · rw [h2 i (by omega)]; simp [q])
      omega
theorem cls_at {f : Nat → Nat} : ∀ (k S : Nat), k ≤ 10 → S < 1024 → ∃ T, sub T S ∧ T ≤ S ∧ cls f k S = f T
  | 0, S, _, _ => ⟨S, fun _ h => h, Nat.le_refl _, rfl⟩
  | k + 1, S, hk, hS => by
    have hl := clr_le S k
    obtain ⟨T1, a1, b1, c1⟩ := cls_at (f := f) k S (by omega) hS
    obtain ⟨T2, a2, b2, c2⟩ := cls_at (f := f) k (clr S k) (by omega) (by omega)
    rcases Nat.lt_or_ge (cls f k S) (cls f k (clr S k)) with q | q
    · refine ⟨T2, fun i hi => ?_, by omega, ?_⟩
      · have := a2 i hi
        rw [clr_tb hS (by omega), Bool.and_eq_true] at this
        exact this.1
      · show max _ _ = _; omega
    · exact ⟨T1, a1, b1, by show max _ _ = _; omega⟩
theorem gx_up {v : Nat → Option (Nat × Nat)} : ∀ (N c g T : Nat), c < N → v c = some (g, T) → g ≤ gx v N T
  | 0, c, _, _, h, _ => absurd h (Nat.not_lt_zero c)
  | N + 1, c, g, T, hc, e => by
    by_cases q : c = N
    · subst q
      unfold gx
      rw [e]
      dsimp only
      rw [if_pos rfl]; omega
    · have := gx_up (v := v) N c g T (by omega) e
      unfold gx
      split
      · exact this
      · split <;> omega
theorem gx_at {v : Nat → Option (Nat × Nat)} : ∀ (N T : Nat), gx v N T = 0 ∨ ∃ c, c < N ∧ v c = some (gx v N T, T)
  | 0, _ => Or.inl rfl
  | N + 1, T => by
    have ih := gx_at (v := v) N T
    have keep : gx v (N + 1) T = gx v N T → (gx v (N + 1) T = 0 ∨ ∃ c, c < N + 1 ∧ v c = some (gx v (N + 1) T, T)) := by
      intro e
      rw [e]
      rcases ih with ih | ⟨c, h1, h2⟩
      · exact Or.inl ih
      · exact Or.inr ⟨c, by omega, h2⟩
    cases hv : v N with
    | none => exact keep (by conv => lhs; unfold gx; rw [hv])
    | some w =>
      obtain ⟨g, T'⟩ := w
      have hg : gx v (N + 1) T = if T = T' then max (gx v N T) g else gx v N T := by conv => lhs; unfold gx; rw [hv]
      by_cases e : T = T'
      · subst e
        rw [if_pos rfl] at hg
        rcases Nat.lt_or_ge (gx v N T) g with q | q
        · exact Or.inr ⟨N, by omega, by rw [hv, hg]; congr 2; omega⟩
        · exact keep (by omega)
      · rw [if_neg e] at hg; exact keep hg
/-- runs with the set that they keep -/
def RS (h : HS) : Nat → Nat → Nat → Nat → Prop
  | 0, x, g, T => x = 0 ∧ g = 0 ∧ T = 0
  | t + 1, x, g, T => RS h t x g T ∨ ∃ x0 g0 T0 s u, RS h t x0 g0 T0 ∧ s < 2 ∧ stt h (sgm h x0) t s = some u ∧ x = ix t s u ∧ g = g0 + gd h t s ∧ T = T0 ||| 2 ^ t
theorem RS_lt {h : HS} : ∀ (t x g T : Nat), RS h t x g T → T < 2 ^ t
  | 0, _, _, T, e => by obtain ⟨_, _, rfl⟩ := e; decide
  | t + 1, x, g, T, e => by
    have hp : 2 ^ (t + 1) = 2 ^ t + 2 ^ t := by rw [Nat.pow_succ]; omega
    rcases e with e | ⟨x0, g0, T0, s, u, h1, h2, h3, h4, h5, h6⟩
    · have := RS_lt t x g T e; omega
    · have := RS_lt t x0 g0 T0 h1
      rw [h6]
      exact Nat.or_lt_two_pow (by omega) (by omega)
theorem RS_rx {h : HS} : ∀ (t x g T : Nat), RS h t x g T → RX h t x g
  | 0, _, _, _, e => ⟨e.1, e.2.1⟩
  | t + 1, x, g, T, e => by
    rcases e with e | ⟨x0, g0, T0, s, u, h1, h2, h3, h4, h5, h6⟩
    · exact Or.inl (RS_rx t x g T e)
    · exact Or.inr ⟨x0, g0, s, u, RS_rx t x0 g0 T0 h1, h2, h3, h4, h5⟩
theorem RX_rs {h : HS} : ∀ (t x g : Nat), RX h t x g → ∃ T, RS h t x g T
  | 0, _, _, e => ⟨0, e.1, e.2, rfl⟩
  | t + 1, x, g, e => by
    rcases e with e | ⟨x0, g0, s, u, h1, h2, h3, h4, h5⟩
    · obtain ⟨T, hT⟩ := RX_rs t x g e
      exact ⟨T, Or.inl hT⟩
    · obtain ⟨T, hT⟩ := RX_rs t x0 g0 h1
      exact ⟨T ||| 2 ^ t, Or.inr ⟨x0, g0, T, s, u, hT, h2, h3, h4, h5, rfl⟩⟩
theorem RS_mono {h : HS} {x g T : Nat} : ∀ (d t : Nat), RS h t x g T → RS h (t + d) x g T
  | 0, _, e => e
  | d + 1, t, e => Or.inl (RS_mono d t e)
/-- a code's run is such a run -/
theorem fw_rs {h : HS} {n c : Nat} : ∀ (j : Nat) (q : SG) (g T : Nat), fw h n c j = some (q, g, T) → ∃ x, sgm h x = q ∧ RS h j x g T
  | 0, q, g, T, e => by
    have e' : (none, 0, 0) = (q, g, T) := Option.some.inj e
    cases e'
    exact ⟨0, rfl, rfl, rfl, rfl⟩
  | j + 1, q, g, T, e => by
    unfold fw at e
    cases hf : fw h n c j with
    | none => rw [hf] at e; cases e
    | some v =>
      obtain ⟨q', g', T'⟩ := v
      obtain ⟨x, h1, h2⟩ := fw_rs j q' g' T' hf
      rw [hf] at e
      dsimp only at e
      split at e
      · cases e; exact ⟨x, h1, Or.inl h2⟩
      · cases hs : stp h q' j (dg n c j) with
        | none => rw [hs] at e; cases e
        | some f =>
          rw [hs] at e
          cases e
          obtain ⟨u, e3, e4⟩ := stt_of_stp hs
          have hu := stt_le e3
          have hd := dg_lt n c j
          rename_i hd2
          refine ⟨ix j (dg n c j) u, ?_, Or.inr ⟨x, g', T', dg n c j, u, h2, by omega, by rw [h1]; exact e3, rfl, rfl, rfl⟩⟩
          rw [sgm_ix h (by omega) (by omega), e4]
theorem dg_ext {t c d j : Nat} (hd : d < 3) (hj : j < t) : dg (t + 1) (3 * c + d) j = dg t c j := by
  unfold dg
  have : t + 1 - 1 - j = (t - 1 - j) + 1 := by omega
  rw [this, Nat.pow_succ, Nat.mul_comm (3 ^ (t - 1 - j)) 3, ← Nat.div_div_eq_div_mul]
  congr 2
  omega
theorem fw_ext {h : HS} {t c d : Nat} (hd : d < 3) : ∀ (j : Nat), j ≤ t → fw h (t + 1) (3 * c + d) j = fw h t c j
  | 0, _ => rfl
  | j + 1, hj => by
    unfold fw
    rw [fw_ext hd j (by omega), dg_ext hd (show j < t by omega)]
theorem rs_fw {h : HS} : ∀ (t x g T : Nat), RS h t x g T → ∃ c, c < 3 ^ t ∧ fw h t c t = some (sgm h x, g, T)
  | 0, x, g, T, e => by
    obtain ⟨rfl, rfl, rfl⟩ := e
    exact ⟨0, by decide, rfl⟩
  | t + 1, x, g, T, e => by
    have hp := p3 t
    have e3 : 3 ^ (t + 1) = 3 ^ t * 3 := Nat.pow_succ 3 t
    have hdl : ∀ c d, d < 3 → dg (t + 1) (3 * c + d) t = d := by
      intro c d hd
      unfold dg
      rw [show t + 1 - 1 - t = 0 by omega, Nat.pow_zero, Nat.div_one]
      omega
    rcases e with e | ⟨x0, g0, T0, s, u, h1, h2, h3, h4, h5, h6⟩
    · obtain ⟨c, hc, ec⟩ := rs_fw t x g T e
      refine ⟨3 * c + 2, by omega, ?_⟩
      unfold fw
      rw [fw_ext (by decide) t (Nat.le_refl t), ec]
      dsimp only
      rw [hdl c 2 (by decide), if_pos rfl]
    · obtain ⟨c, hc, ec⟩ := rs_fw t x0 g0 T0 h1
      have hu := stt_le h3
      refine ⟨3 * c + s, by omega, ?_⟩
      unfold fw
      rw [fw_ext (by omega) t (Nat.le_refl t), ec]
      dsimp only
      rw [hdl c s (by omega), if_neg (by omega), stp_of_stt h3]
      dsimp only
      rw [h4, sgm_ix h h2 (by omega), h5, h6]
/-- the best of a set, and how it is come to -/
def VB (h : HS) (n S : Nat) : Nat := cls (gx (vm h n) (3 ^ n)) n S
theorem VB_up {h : HS} {n S x g T : Nat} (hb : HB h n) (hS : S < 2 ^ n) (hr : RS h n x g T) (hs : sub T S) : g ≤ VB h n S := by
  have hn := hb.1
  have hp := p2_le hn
  obtain ⟨c, hc, ec⟩ := rs_fw n x g T hr
  have hv : vm h n c = some (g, T) := by unfold vm; rw [ec]; rfl
  have h1 := gx_up (3 ^ n) c g T hc hv
  have hT := RS_lt n x g T hr
  have h2 := cls_up (f := gx (vm h n) (3 ^ n)) n S T (by omega) (by omega) hs (fun i hi => by
    rw [Nat.testBit_lt_two_pow (Nat.lt_of_lt_of_le hT (Nat.pow_le_pow_right (by decide) hi)), Nat.testBit_lt_two_pow (Nat.lt_of_lt_of_le hS (Nat.pow_le_pow_right (by decide) hi))])
  exact Nat.le_trans h1 h2
theorem RS_none (h : HS) (n : Nat) : RS h n 0 0 0 := by
  have := RS_mono n 0 (show RS h 0 0 0 0 from ⟨rfl, rfl, rfl⟩)
  rw [Nat.zero_add] at this
  exact this
theorem VB_at {h : HS} {n S : Nat} (hb : HB h n) (hS : S < 2 ^ n) : ∃ x T, RS h n x (VB h n S) T ∧ sub T S := by
  have hn := hb.1
  have hp := p2_le hn
  obtain ⟨T, h1, h2, h3⟩ := cls_at (f := gx (vm h n) (3 ^ n)) n S (by omega) (by omega)
  rcases gx_at (v := vm h n) (3 ^ n) T with e | ⟨c, hc, ec⟩
  · refine ⟨0, 0, ?_, fun i hi => by simp at hi⟩
    have : VB h n S = 0 := by unfold VB; rw [h3, e]
    rw [this]; exact RS_none h n
  · unfold vm at ec
    cases hf : fw h n c n with
    | none => rw [hf] at ec; cases ec
    | some v =>
      obtain ⟨q, g, T'⟩ := v
      rw [hf] at ec
      have e1 : (g, T') = (gx (vm h n) (3 ^ n) T, T) := Option.some.inj ec
      have e2 : g = gx (vm h n) (3 ^ n) T := congrArg Prod.fst e1
      have e3 : T' = T := congrArg Prod.snd e1
      obtain ⟨x, -, hx⟩ := fw_rs n q g T' hf
      refine ⟨x, T, ?_, h1⟩
      unfold VB
      rw [h3, ← e2, ← e3]
      exact hx
/-- a run at an earlier time -/
theorem RS_cut {h : HS} {t : Nat} : ∀ (r x g T : Nat), RS h (t + r) x g T → ∃ x0 g0 T0, RS h t x0 g0 T0 ∧ T0 = T % 2 ^ t ∧ ∀ m, g + (GG h m (t + r) (sgm h x)).1 ≤ g0 + (GG h (r + m) t (sgm h x0)).1
  | 0, x, g, T, e => ⟨x, g, T, e, (Nat.mod_eq_of_lt (RS_lt t x g T e)).symm, fun m => by rw [Nat.zero_add]; exact Nat.le_refl _⟩
  | r + 1, x, g, T, e => by
    rcases e with e | ⟨x0, g0, T0, s, u, h1, h2, h3, h4, h5, h6⟩
    · obtain ⟨y, g1, T1, a, b, c⟩ := RS_cut r x g T e
      refine ⟨y, g1, T1, a, b, fun m => ?_⟩
      have h1 := c (m + 1)
      have h2 := GG_drop h m (t + r) (sgm h x)
      rw [show r + 1 + m = r + (m + 1) by omega]
      show g + (GG h m (t + r + 1) (sgm h x)).1 ≤ _
      omega
    · have h4 : x = ix (t + r) s u := h4
      have h5 : g = g0 + gd h (t + r) s := h5
      have h6 : T = T0 ||| 2 ^ (t + r) := h6
      have h3 : stt h (sgm h x0) (t + r) s = some u := h3
      obtain ⟨y, g1, T1, a, b, c⟩ := RS_cut r x0 g0 T0 h1
      have hu := stt_le h3
      refine ⟨y, g1, T1, a, ?_, fun m => ?_⟩
      · rw [b, h6]
        apply Nat.eq_of_testBit_eq
        intro i
        rw [Nat.testBit_mod_two_pow, Nat.testBit_mod_two_pow, Nat.testBit_or, Nat.testBit_two_pow]
        by_cases q : i < t
        · rw [decide_eq_false (show ¬ t + r = i by omega), Bool.or_false]
        · rw [decide_eq_false q, Bool.false_and, Bool.false_and]
      · have h7 := c (m + 1)
        have h8 := GG_keep h m (t + r) (sgm h x0) h2 (stp_of_stt h3)
        rw [show r + 1 + m = r + (m + 1) by omega]
        rw [h4, h5, sgm_ix h h2 (by omega)]
        show g0 + gd h (t + r) s + (GG h m (t + r + 1) _).1 ≤ _
        omega
theorem RS_0 {h : HS} : ∀ (t x g : Nat), RS h t x g 0 → x = 0 ∧ g = 0
  | 0, x, g, e => ⟨e.1, e.2.1⟩
  | t + 1, x, g, e => by
    rcases e with e | ⟨x0, g0, T0, s, u, h1, h2, h3, h4, h5, h6⟩
    · exact RS_0 t x g e
    · exfalso
      have := congrArg (fun z => z.testBit t) h6
      simp at this
theorem RS_low {h : HS} {t : Nat} : ∀ (r x g T : Nat), RS h (t + r) x g T → T < 2 ^ t → RS h t x g T
  | 0, _, _, _, e, _ => e
  | r + 1, x, g, T, e, hT => by
    rcases e with e | ⟨x0, g0, T0, s, u, h1, h2, h3, h4, h5, h6⟩
    · exact RS_low r x g T e hT
    · exfalso
      have h7 : T.testBit (t + r) = true := by rw [h6, Nat.testBit_or, Nat.testBit_two_pow]; simp
      rw [Nat.testBit_lt_two_pow (Nat.lt_of_lt_of_le hT (Nat.pow_le_pow_right (by decide) (by omega)))] at h7
      cases h7
/-- going on from a run as well as can be -/
theorem RS_on {h : HS} : ∀ (r t x g T : Nat), RS h t x g T → ∃ y T', RS h (t + r) y (g + (GG h r t (sgm h x)).1) T' ∧ T' % 2 ^ t = T
  | 0, t, x, g, T, e => ⟨x, T, e, Nat.mod_eq_of_lt (RS_lt t x g T e)⟩
  | r + 1, t, x, g, T, e => by
    have hT := RS_lt t x g T e
    have hp : 2 ^ (t + 1) = 2 ^ t * 2 := Nat.pow_succ 2 t
    rcases GG_case h r t (sgm h x) with e1 | ⟨s, f, hs, e1, e2⟩
    · obtain ⟨y, T', hy, hm⟩ := RS_on r (t + 1) x g T (Or.inl e)
      refine ⟨y, T', ?_, ?_⟩
      · rw [e1, show t + (r + 1) = t + 1 + r by omega]; exact hy
      · have : T' % 2 ^ t = T' % 2 ^ (t + 1) % 2 ^ t := by rw [hp, Nat.mod_mul_right_mod]
        rw [this, hm, Nat.mod_eq_of_lt hT]
    · obtain ⟨u, e3, e4⟩ := stt_of_stp e1
      have hu := stt_le e3
      obtain ⟨y, T', hy, hm⟩ := RS_on r (t + 1) (ix t s u) (g + gd h t s) (T ||| 2 ^ t) (Or.inr ⟨x, g, T, s, u, e, hs, e3, rfl, rfl, rfl⟩)
      refine ⟨y, T', ?_, ?_⟩
      · rw [sgm_ix h hs (by omega), ← e4] at hy
        rw [e2, show t + (r + 1) = t + 1 + r by omega, show g + ((GG h r (t + 1) (some (t, f))).1 + gd h t s) = g + gd h t s + (GG h r (t + 1) (some (t, f))).1 by omega]
        exact hy
      · have : T' % 2 ^ t = T' % 2 ^ (t + 1) % 2 ^ t := by rw [hp, Nat.mod_mul_right_mod]
        rw [this, hm]
        apply Nat.eq_of_testBit_eq
        intro i
        rw [Nat.testBit_mod_two_pow, Nat.testBit_or, Nat.testBit_two_pow]
        by_cases q : i < t
        · rw [decide_eq_true q, decide_eq_false (show ¬ t = i by omega), Bool.true_and, Bool.or_false]
        · rw [decide_eq_false q, Bool.false_and, Nat.testBit_lt_two_pow (Nat.lt_of_lt_of_le hT (Nat.pow_le_pow_right (by decide) (by omega)))]
theorem VB_ahead {h : HS} {n t : Nat} (hb : HB h n) (ht : t ≤ n) (ht2 : 0 < n) : VB h n (2 ^ t - 1) = sA h t := by
  have hpt : 0 < 2 ^ t := Nat.two_pow_pos t
  have hpn : 2 ^ t ≤ 2 ^ n := Nat.pow_le_pow_right (by decide) ht
  have hS : 2 ^ t - 1 < 2 ^ n := by omega
  apply Nat.le_antisymm
  · obtain ⟨x, T, h1, h2⟩ := VB_at hb hS
    have hT : T < 2 ^ t := by
      apply Nat.lt_pow_two_of_testBit
      intro i hi
      cases q : T.testBit i with
      | false => rfl
      | true =>
        have := h2 i q
        rw [Nat.testBit_two_pow_sub_one, decide_eq_true_eq] at this
        omega
    rw [show n = t + (n - t) by omega] at h1
    have h3 := RS_low (n - t) x _ T h1 hT
    have := RX_up t 0 x _ (RS_rx t x _ T h3)
    rw [show t + (n - t) = n by omega] at this
    exact this
  · obtain ⟨y, hy⟩ := RX_at t 0 0 0 (show RX h 0 0 0 from ⟨rfl, rfl⟩)
    rw [Nat.zero_add, Nat.zero_add] at hy
    obtain ⟨T, hT⟩ := RX_rs t y _ hy
    have hTl := RS_lt t y _ T hT
    have h2 := RS_mono (n - t) t hT
    rw [show t + (n - t) = n by omega] at h2
    refine VB_up hb hS h2 (fun i hi => ?_)
    rw [Nat.testBit_two_pow_sub_one, decide_eq_true_eq]
    rcases Nat.lt_or_ge i t with q | q
    · exact q
    · rw [Nat.testBit_lt_two_pow (Nat.lt_of_lt_of_le hTl (Nat.pow_le_pow_right (by decide) q))] at hi
      cases hi
theorem msk_tb : ∀ n, n < 11 → ∀ t, t ≤ n → ∀ i, i < 11 → (2 ^ n - 2 ^ t).testBit i = (decide (t ≤ i) && decide (i < n)) := by decide +kernel
theorem VB_from {h : HS} {n t : Nat} (hb : HB h n) (ht : t ≤ n) (ht2 : 0 < t) : VB h n (2 ^ n - 2 ^ t) = sB h n t := by
  have hn := hb.1
  have hp10 := p2_le hn
  have hpt : 0 < 2 ^ t := Nat.two_pow_pos t
  have hS : 2 ^ n - 2 ^ t < 2 ^ n := by
    have : 0 < 2 ^ n := Nat.two_pow_pos n
    omega
  apply Nat.le_antisymm
  · obtain ⟨x, T, h1, h2⟩ := VB_at hb hS
    have hT0 : T % 2 ^ t = 0 := by
      apply Nat.eq_of_testBit_eq
      intro i
      rw [Nat.testBit_mod_two_pow, Nat.zero_testBit]
      by_cases q : i < t
      · cases q2 : T.testBit i with
        | false => rw [Bool.and_false]
        | true =>
          have := h2 i q2
          rw [msk_tb n (by omega) t ht i (by omega), decide_eq_false (show ¬ t ≤ i by omega)] at this
          cases this
      · rw [decide_eq_false q, Bool.false_and]
    rw [show n = t + (n - t) by omega] at h1
    obtain ⟨x0, g0, T0, a, b, c⟩ := RS_cut (n - t) x _ T h1
    rw [hT0] at b
    subst b
    obtain ⟨rfl, rfl⟩ := RS_0 t x0 g0 a
    have := c 0
    rw [show t + (n - t) = n by omega, Nat.zero_add] at this
    exact this
  · obtain ⟨y, T', hy, hm⟩ := RS_on (n - t) t 0 0 0 (RS_none h t)
    rw [Nat.zero_add, show t + (n - t) = n by omega] at hy
    have hTl := RS_lt n y _ T' hy
    refine VB_up hb hS hy (fun i hi => ?_)
    have hin : i < n := by
      rcases Nat.lt_or_ge i n with q | q
      · exact q
      · rw [Nat.testBit_lt_two_pow (Nat.lt_of_lt_of_le hTl (Nat.pow_le_pow_right (by decide) q))] at hi
        cases hi
    have hti : t ≤ i := by
      rcases Nat.lt_or_ge i t with q | q
      · have := congrArg (fun z => z.testBit i) hm
        simp only [Nat.testBit_mod_two_pow, Nat.zero_testBit] at this
        rw [decide_eq_true q, hi] at this
        cases this
      · exact q
    rw [msk_tb n (by omega) t ht i (by omega), decide_eq_true hti, decide_eq_true hin]
    rfl
