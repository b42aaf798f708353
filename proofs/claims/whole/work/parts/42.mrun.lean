/-! ===== the reference's own walk of a code ===== -/
theorem tB_nI (n : Nat) : (nI n).toBitVec = BitVec.ofNat 32 n := rfl
theorem nI_or {a b : Nat} (ha : a < 2 ^ 32) (hb : b < 2 ^ 32) : nI a ||| nI b = nI (a ||| b) := by
  apply Int32.toBitVec_inj.mp
  rw [Int32.toBitVec_or, tB_nI, tB_nI, tB_nI]
  apply BitVec.eq_of_toNat_eq
  rw [BitVec.toNat_or, BitVec.toNat_ofNat, BitVec.toNat_ofNat, BitVec.toNat_ofNat, Nat.mod_eq_of_lt ha, Nat.mod_eq_of_lt hb, Nat.mod_eq_of_lt (Nat.or_lt_two_pow ha hb)]
theorem nI_and {a b : Nat} (ha : a < 2 ^ 32) (hb : b < 2 ^ 32) : nI a &&& nI b = nI (a &&& b) := by
  apply Int32.toBitVec_inj.mp
  rw [Int32.toBitVec_and, tB_nI, tB_nI, tB_nI]
  apply BitVec.eq_of_toNat_eq
  rw [BitVec.toNat_and, BitVec.toNat_ofNat, BitVec.toNat_ofNat, BitVec.toNat_ofNat, Nat.mod_eq_of_lt ha, Nat.mod_eq_of_lt hb, Nat.mod_eq_of_lt (Nat.lt_of_le_of_lt Nat.and_le_left ha)]
theorem shl1 : ∀ k, k < 12 → (1 : Int32) <<< (nI k &&& 31) = nI (2 ^ k) := by decide +kernel
theorem m9 : (-9 : Int32) = zI (-9) := rfl
theorem nI_ne9 {n : Nat} (h : n < 2147483648) : ¬ nI n = (-9 : Int32) := by
  rw [m9, zI_nI, zI_eq (by omega) (by omega) (by omega) (by omega)]; omega
def HB (h : HS) (n : Nat) : Prop := n ≤ 10 ∧ hRate h ≤ 99 ∧ hWrap h ≤ 9999 ∧ ∀ k, k < n → hDay h k ≤ 999 ∧ hCnt h k ≤ 9999 ∧ hWor h k ≤ 9
/-- the reference's row of a house -/
def HM (h : HS) (n : Nat) (now : Nat → Int32) : Prop := now 0 = nI n ∧ now 1 = nI (hRate h) ∧ now 2 = nI (hWrap h) ∧ ∀ k, k < n → now (3 + k) = nI (hDay h k) ∧ now (13 + k) = nI (hCnt h k) ∧ now (23 + k) = nI (hWor h k)
theorem ct_le {h : HS} {n k s : Nat} (hb : HB h n) (hk : k < n) : ct h k s ≤ 9999 := by
  have := (hb.2.2.2 k hk).2.1
  unfold ct; split <;> omega
theorem gd_le {h : HS} {n k s : Nat} (hb : HB h n) (hk : k < n) : gd h k s ≤ 18 := by
  have := (hb.2.2.2 k hk).2.2
  unfold gd; split <;> omega
section
variable {h : HS} {n : Nat} {now : Nat → Int32}
theorem m_countOf (hb : HB h n) (hm : HM h n now) {k s : Nat} (hk : k < n) (hs : s < 2) {Q : Int32 → Prop} (hQ : Q (nI (ct h k s))) : wp_X9_countOf now (nI k) (nI s) Q := by
  have hn := hb.1
  have hc := (hb.2.2.2 k hk).2.1
  have e13 : (13 : Int32) + nI k = nI (13 + k) := nI_add 13 k
  unfold wp_X9_countOf wp_X9_countOf_b31
  rw [e13, nI_cl (by omega), (hm.2.2.2 k hk).2.1]
  refine bNE s 1 rfl rfl (by omega) (by decide) (fun e => ⟨vin (by omega) (by decide), ?_⟩) (fun e => ⟨vin (by omega) (by decide), ?_⟩)
  · have : ct h k s = hCnt h k := by unfold ct; rw [if_neg e]
    rw [this] at hQ; exact hQ
  · have : ct h k s = hCnt h k * 5 / 8 := by unfold ct; rw [if_pos e]
    rw [nI_mulL, nI_divL (by omega) (by decide) (by decide)]
    rw [this] at hQ; exact hQ
theorem m_farLoop (hb : HB h n) (hm : HM h n now) {Q : Int32 → Prop} {f c : Nat} (hf : f < 1000000) (hc : c ≤ 9999) (hQ : Q (match trn c f (hWrap h) with | none => -9 | some t => nI (c + t * hWrap h))) : ∃ m, wp_X9_farBehind_h11 now Q m (nI f) (nI c) 0 := by
  have hw := hb.2.2.1
  have e2 : (now (2 : Int32).toNatClampNeg) = nI (hWrap h) := hm.2.2.1
  have hend : ∀ t, t ≤ 3 → (∀ u, u < t → c + u * hWrap h < f) → (f ≤ c + t * hWrap h ∨ t = 3) → wp_X9_farBehind_b40 now Q (nI f) (nI (c + t * hWrap h)) := by
    intro t ht hu he
    have htw : t * hWrap h ≤ 3 * 9999 := Nat.mul_le_mul ht hw
    unfold wp_X9_farBehind_b40 wp_X9_farBehind_b53
    refine bLE f (c + t * hWrap h) rfl rfl (by omega) (by omega) (fun e => ?_) (fun e => ?_)
    · have : trn c f (hWrap h) = some t := by
        unfold trn
        have h0 := hu 0
        have h1 := hu 1
        have h2 := hu 2
        rcases (show t = 0 ∨ t = 1 ∨ t = 2 ∨ t = 3 by omega) with rfl | rfl | rfl | rfl
        · rw [if_pos (by omega)]
        · rw [if_neg (by omega), if_pos (by omega)]
        · rw [if_neg (by omega), if_neg (by omega), if_pos (by omega)]
        · rw [if_neg (by omega), if_neg (by omega), if_neg (by omega), if_pos (by omega)]
      rw [this] at hQ; exact hQ
    · have ht3 : t = 3 := by omega
      subst ht3
      have h0 := hu 0
      have h1 := hu 1
      have h2 := hu 2
      have : trn c f (hWrap h) = none := by
        unfold trn
        rw [if_neg (by omega), if_neg (by omega), if_neg (by omega), if_neg (by omega)]
      rw [this] at hQ; exact hQ
  have hstep : ∀ (d t : Nat), t + d = 3 → (∀ u, u < t → c + u * hWrap h < f) → wp_X9_farBehind_h11 now Q (d + 1) (nI f) (nI (c + t * hWrap h)) (nI t) := by
    intro d
    induction d with
    | zero =>
      intro t ht hu
      have ht3 : t = 3 := by omega
      subst ht3
      have htw : 3 * hWrap h ≤ 3 * 9999 := Nat.mul_le_mul (Nat.le_refl 3) hw
      simp only [wp_X9_farBehind_h11]
      refine bLE 3 3 rfl rfl (by decide) (by decide) (fun _ => hend 3 (Nat.le_refl 3) hu (Or.inr rfl)) (fun e => by omega)
    | succ d ih =>
      intro t ht hu
      have htw : t * hWrap h ≤ 3 * 9999 := Nat.mul_le_mul (by omega) hw
      simp only [wp_X9_farBehind_h11]
      refine bLE 3 t rfl rfl (by decide) (by omega) (fun e => by omega) (fun _ => ?_)
      refine bLE f (c + t * hWrap h) rfl rfl (by omega) (by omega) (fun e => hend t (by omega) hu (Or.inl e)) (fun e => ?_)
      intro x hx y hy
      have hx' : x = nI (c + (t + 1) * hWrap h) := by rw [hx, e2, nI_add]; congr 1; rw [Nat.add_mul, Nat.one_mul, Nat.add_assoc]
      have hy' : y = nI (t + 1) := by rw [hy]; exact nI_1 t
      rw [hx', hy']
      exact ih (t + 1) (by omega) (lt_s hu e)
  have := hstep 3 0 rfl (fun u hu => absurd hu (Nat.not_lt_zero u))
  rw [Nat.zero_mul, Nat.add_zero] at this
  exact ⟨4, this⟩
theorem m_farBehind (hb : HB h n) (hm : HM h n now) {k s f : Nat} (hk : k < n) (hs : s < 2) (hf : f < 1000000) {Q : Int32 → Prop} (hQ : Q (match trn (ct h k s) f (hWrap h) with | none => -9 | some t => nI (ct h k s + t * hWrap h))) : wp_X9_farBehind now (nI k) (nI s) (nI f) Q := by
  unfold wp_X9_farBehind
  exact m_countOf hb hm hk hs (m_farLoop hb hm hf (ct_le hb hk) hQ)
theorem m_power {e : Nat} (he : e ≤ 10) {Q : Int32 → Prop} (hQ : Q (nI (3 ^ e))) : wp_X9_power (nI e) Q := by
  have hstep : ∀ (d t : Nat), t + d = e → wp_X9_power_h4 Q (d + 1) (nI e) (nI (3 ^ t)) (nI t) := by
    intro d
    induction d with
    | zero =>
      intro t ht
      simp only [wp_X9_power_h4]
      refine bLE e t rfl rfl (by omega) (by omega) (fun _ => ?_) (fun q => by omega)
      have : t = e := by omega
      rw [this]; exact hQ
    | succ d ih =>
      intro t ht
      simp only [wp_X9_power_h4]
      refine bLE e t rfl rfl (by omega) (by omega) (fun q => by omega) (fun _ => ?_)
      intro x hx y hy
      have hx' : x = nI (3 ^ (t + 1)) := by rw [hx, nI_mulL, Nat.pow_succ]
      have hy' : y = nI (t + 1) := by rw [hy]; exact nI_1 t
      rw [hx', hy']
      exact ih (t + 1) (by omega)
  exact ⟨e + 1, hstep e 0 (by omega)⟩
end
/-- the digit of a reading in a code -/
def dg (n c j : Nat) : Nat := c / 3 ^ (n - 1 - j) % 3
/-- a code up to a reading: what is kept last, the good, the set -/
def fw (h : HS) (n c : Nat) : Nat → Option (SG × Nat × Nat)
  | 0 => some (none, 0, 0)
  | j + 1 => match fw h n c j with
    | none => none
    | some (q, g, T) => if dg n c j = 2 then some (q, g, T) else match stp h q j (dg n c j) with
      | none => none
      | some f => some (some (j, f), g + gd h j (dg n c j), T ||| 2 ^ j)
theorem stt_le {h : HS} {q : SG} {k s t : Nat} (e : stt h q k s = some t) : t ≤ 3 := by
  unfold stt at e
  split at e
  · cases e; omega
  · split at e
    · cases e
    · rename_i u hu
      split at e
      · cases e
      · cases e
        unfold trn at hu
        repeat' split at hu
        all_goals cases hu
        all_goals omega
theorem stp_le {h : HS} {n : Nat} (hb : HB h n) {q : SG} {k s f : Nat} (hk : k < n) (e : stp h q k s = some f) : f ≤ 40000 := by
  unfold stp at e
  cases ht : stt h q k s with
  | none => rw [ht] at e; cases e
  | some t =>
    rw [ht] at e
    have e' : ct h k s + t * hWrap h = f := Option.some.inj e
    have h1 := stt_le ht
    have h2 := ct_le (s := s) hb hk
    have h3 : t * hWrap h ≤ 3 * 9999 := Nat.mul_le_mul h1 hb.2.2.1
    omega
/-- what a run holds: the last is behind, all is small -/
theorem fw_ok {h : HS} {n c : Nat} (hb : HB h n) : ∀ (j : Nat) (q : SG) (g T : Nat), j ≤ n → fw h n c j = some (q, g, T) → (∀ i f, q = some (i, f) → i < j ∧ f ≤ 40000) ∧ g ≤ 18 * j ∧ T < 2 ^ j
  | 0, q, g, T, _, e => by
    have e' : (none, 0, 0) = (q, g, T) := Option.some.inj e
    cases e'
    exact ⟨fun i f e => (by cases e), (by omega), (by decide)⟩
  | j + 1, q, g, T, hj, e => by
    unfold fw at e
    cases hf : fw h n c j with
    | none => rw [hf] at e; cases e
    | some v =>
      obtain ⟨q', g', T'⟩ := v
      obtain ⟨h1, h2, h3⟩ := fw_ok hb j q' g' T' (by omega) hf
      rw [hf] at e
      dsimp only at e
      have hp : 2 ^ (j + 1) = 2 ^ j + 2 ^ j := by rw [Nat.pow_succ]; omega
      split at e
      · cases e
        exact ⟨fun i f e => ⟨by have := h1 i f e; omega, (h1 i f e).2⟩, by omega, by omega⟩
      · cases hs : stp h q' j (dg n c j) with
        | none => rw [hs] at e; cases e
        | some f =>
          rw [hs] at e
          cases e
          have hg := gd_le (s := dg n c j) hb (show j < n by omega)
          exact ⟨fun i f' e => by cases e; exact ⟨by omega, stp_le hb (by omega) hs⟩, by omega, Nat.or_lt_two_pow (by omega) (by omega)⟩
def LK (q : SG) : Int32 := match q with
  | none => -9
  | some (j, _) => nI j
def LF (q : SG) : Int32 := match q with
  | none => -9
  | some (_, f) => nI f
theorem fw_none {h : HS} {n c : Nat} : ∀ (d j : Nat), fw h n c j = none → fw h n c (j + d) = none
  | 0, _, e => e
  | d + 1, j, e => by
    have := fw_none d j e
    show fw h n c (j + d + 1) = none
    unfold fw
    rw [this]
theorem dg_lt (n c j : Nat) : dg n c j < 3 := Nat.mod_lt _ (by decide)
theorem p3_le {e : Nat} (he : e ≤ 10) : 3 ^ e ≤ 59049 := Nat.le_trans (Nat.pow_le_pow_right (by decide) he) (by decide)
theorem stp_none (h : HS) (k s : Nat) : stp h none k s = some (ct h k s) := by
  unfold stp stt
  show some (ct h k s + 0 * hWrap h) = _
  rw [Nat.zero_mul, Nat.add_zero]
theorem stp_some (h : HS) (i f k s : Nat) : stp h (some (i, f)) k s = match trn (ct h k s) f (hWrap h) with
    | none => none
    | some t => if raceb h i f k (ct h k s + t * hWrap h) then none else some (ct h k s + t * hWrap h) := by
  unfold stp stt
  dsimp only
  cases trn (ct h k s) f (hWrap h) with
  | none => rfl
  | some t =>
    dsimp only
    split <;> rfl
section
variable {h : HS} {n : Nat} {now : Nat → Int32}
theorem m_goodLoop (hb : HB h n) (hm : HM h n now) {c u : Nat} (hu : u ≤ n) {Q : Int32 → Int32 → Int32 → Int32 → Prop} (hQ1 : ∀ q g T, fw h n c u = some (q, g, T) → Q (nI g) (nI T) (LK q) (LF q)) (hQ2 : fw h n c u = none → ∀ x y z, Q (-9) x y z) :
    ∀ (d j : Nat) (q : SG) (g T : Nat) (v4 : Int32), j + d = u → fw h n c j = some (q, g, T) → (j < n → v4 = nI (3 ^ (n - 1 - j))) → wp_X9_goodOf_h51 now Q (d + 1) (nI u) v4 (nI (c % 3 ^ (n - j))) (nI g) (nI j) (nI T) (LK q) (LF q) := by
  have hn := hb.1
  intro d
  induction d with
  | zero =>
    intro j q g T v4 hj hfw _
    simp only [wp_X9_goodOf_h51]
    refine bLE u j rfl rfl (by omega) (by omega) (fun _ => ?_) (fun e => by omega)
    have : j = u := by omega
    subst this
    exact hQ1 q g T hfw
  | succ d ih =>
    intro j q g T v4 hj hfw hv4
    have hjn : j < n := by omega
    have hv4 := hv4 hjn
    obtain ⟨ok1, ok2, ok3⟩ := fw_ok hb j q g T (by omega) hfw
    have hT : T < 2 ^ 10 := Nat.lt_of_lt_of_le ok3 (Nat.pow_le_pow_right (by decide) (by omega))
    have hby := p3_le (e := n - 1 - j) (by omega)
    have hby0 := p3 (n - 1 - j)
    have hr1 : c % 3 ^ (n - j) < 3 ^ (n - j) := Nat.mod_lt _ (p3 _)
    have hr2 := p3_le (e := n - j) (by omega)
    have e3 : 3 ^ (n - j) = 3 ^ (n - 1 - j) * 3 := by rw [← Nat.pow_succ]; congr 1; omega
    have ehow : c % 3 ^ (n - j) / 3 ^ (n - 1 - j) = dg n c j := by
      rw [e3, Nat.mod_mul_right_div_self]; rfl
    have erest : c % 3 ^ (n - j) % 3 ^ (n - 1 - j) = c % 3 ^ (n - (j + 1)) := by
      rw [e3, Nat.mod_mul_right_mod]
      congr 2
      omega
    have hd3 := dg_lt n c j
    simp only [wp_X9_goodOf_h51]
    refine bLE u j rfl rfl (by omega) (by omega) (fun e => by omega) (fun _ => ?_)
    subst hv4
    have hne : ¬ nI (3 ^ (n - 1 - j)) = 0 := nI_ne0 hby0 (by omega)
    refine ⟨hne, ?_⟩
    intro x1 hx1
    refine ⟨hne, ?_⟩
    intro x2 hx2 x3 hx3
    have hx1' : x1 = nI (dg n c j) := by rw [hx1, pk_div (by omega) hby0 (by omega), ehow]
    have hx2' : x2 = nI (c % 3 ^ (n - (j + 1))) := by rw [hx2, pk_rem (by omega) hby0 (by omega), erest]
    have hx3' : x3 = nI (3 ^ (n - 1 - j) / 3) := by rw [hx3, nI_divL (by omega) (by decide) (by decide)]
    subst hx1' hx2' hx3'
    have hby' : j + 1 < n → nI (3 ^ (n - 1 - j) / 3) = nI (3 ^ (n - 1 - (j + 1))) := by
      intro hj2
      rw [show n - 1 - j = (n - 1 - (j + 1)) + 1 by omega, Nat.pow_succ, Nat.mul_div_cancel _ (by decide)]
    have hfw1 : fw h n c (j + 1) = if dg n c j = 2 then some (q, g, T) else match stp h q j (dg n c j) with
      | none => none
      | some f => some (some (j, f), g + gd h j (dg n c j), T ||| 2 ^ j) := by
      conv => lhs; unfold fw
      rw [hfw]
    have hgo : ∀ (f : Nat), stp h q j (dg n c j) = some f → dg n c j ≠ 2 → wp_X9_goodOf_b171 now Q (fun y0 y1 y2 y3 y4 y5 y6 y7 => wp_X9_goodOf_h51 now Q (d + 1) y0 y1 y2 y3 y4 y5 y6 y7) (nI u) (nI (3 ^ (n - 1 - j) / 3)) (nI (c % 3 ^ (n - (j + 1)))) (nI g) (nI j) (nI (dg n c j)) (nI f) (nI T) (LK q) (LF q) := by
      intro f hst hd2
      rw [if_neg hd2, hst] at hfw1
      have hw := (hm.2.2.2 j hjn).2.2
      have hwl := (hb.2.2.2 j hjn).2.2
      have e23 : (23 : Int32) + nI j = nI (23 + j) := nI_add 23 j
      have hend : ∀ (w : Int32), w = nI (gd h j (dg n c j)) → wp_X9_goodOf_b218 now Q (fun y0 y1 y2 y3 y4 y5 y6 y7 => wp_X9_goodOf_h51 now Q (d + 1) y0 y1 y2 y3 y4 y5 y6 y7) w (nI g) (nI u) (nI (3 ^ (n - 1 - j) / 3)) (nI (c % 3 ^ (n - (j + 1)))) (nI j) (nI f) (nI T) (LK q) (LF q) := by
        intro w hw
        unfold wp_X9_goodOf_b218 wp_X9_goodOf_b246
        intro y1 hy1 y2 hy2 y3 hy3
        have hy1' : y1 = nI (g + gd h j (dg n c j)) := by rw [hy1, hw, nI_add]
        have hy2' : y2 = nI (T ||| 2 ^ j) := by
          rw [hy2, shl1 j (by omega), nI_or (by omega) (Nat.lt_of_le_of_lt (Nat.pow_le_pow_right (by decide) (show j ≤ 10 by omega)) (by decide))]
        have hy3' : y3 = nI (j + 1) := by rw [hy3]; exact nI_1 j
        subst hy1' hy2' hy3'
        exact ih (j + 1) (some (j, f)) _ _ _ (by omega) hfw1 hby'
      unfold wp_X9_goodOf_b171 wp_X9_goodOf_b176
      refine ⟨fun _ => ?_, fun e => absurd e (by decide)⟩
      rw [e23, nI_cl (by omega), hw]
      refine bNE (dg n c j) 0 rfl rfl (by omega) (by decide) (fun e => ⟨vin (by omega) (by decide), hend _ ?_⟩) (fun e => ⟨vin (by omega) (by decide), hend _ ?_⟩)
      · unfold gd; rw [if_neg e]
      · unfold gd; rw [if_pos e, nI_Lmul]
    have hfail : ∀ (k0 : Int32), stp h q j (dg n c j) = none → dg n c j ≠ 2 → wp_X9_goodOf_b175 now Q (fun y0 y1 y2 y3 y4 y5 y6 y7 => wp_X9_goodOf_h51 now Q (d + 1) y0 y1 y2 y3 y4 y5 y6 y7) (nI u) (nI (3 ^ (n - 1 - j) / 3)) (nI (c % 3 ^ (n - (j + 1)))) (nI g) (nI j) (nI (dg n c j)) k0 (nI T) (LK q) (LF q) := by
      intro k0 hst hd2
      rw [if_neg hd2, hst] at hfw1
      unfold wp_X9_goodOf_b175 wp_X9_goodOf_b176
      refine ⟨fun e => absurd rfl e, fun _ => hQ2 ?_ _ _ _⟩
      have := fw_none d (j + 1) hfw1
      rw [show u = j + 1 + d by omega]
      exact this
    refine bEQ (dg n c j) 2 rfl rfl (by omega) (by decide) (fun e => ?_) (fun e => ?_)
    · rw [if_pos e] at hfw1
      unfold wp_X9_goodOf_b246
      intro y hy
      have hy' : y = nI (j + 1) := by rw [hy]; exact nI_1 j
      subst hy'
      exact ih (j + 1) q g T _ (by omega) hfw1 hby'
    · have hs2 : dg n c j < 2 := by omega
      cases q with
      | none =>
        refine ⟨fun e9 => absurd rfl e9, fun _ => ?_⟩
        refine m_countOf hb hm hjn hs2 ?_
        have hcl := ct_le (s := dg n c j) hb hjn
        unfold wp_X9_goodOf_b115
        refine ⟨fun e9 => absurd e9 (nI_ne9 (by omega)), fun _ => ⟨fun _ => ?_, fun e9 => absurd rfl e9⟩⟩
        exact hgo _ (stp_none h j _) e
      | some v =>
        obtain ⟨i, f⟩ := v
        obtain ⟨hij, hfl⟩ := ok1 i f rfl
        refine ⟨fun _ => ?_, fun e9 => absurd e9 (nI_ne9 (n := i) (by omega))⟩
        refine m_farBehind hb hm hjn hs2 (f := f) (by omega) ?_
        have hst := stp_some h i f j (dg n c j)
        unfold wp_X9_goodOf_b115
        cases htr : trn (ct h j (dg n c j)) f (hWrap h) with
        | none =>
          rw [htr] at hst
          refine ⟨fun _ => hfail _ hst e, fun e9 => absurd rfl e9⟩
        | some t =>
          rw [htr] at hst
          dsimp only at hst ⊢
          have htl : t ≤ 3 := by
            unfold trn at htr
            repeat' split at htr
            all_goals cases htr
            all_goals omega
          have hcl := ct_le (s := dg n c j) hb hjn
          have htw : t * hWrap h ≤ 3 * 9999 := Nat.mul_le_mul htl hb.2.2.1
          refine ⟨fun e9 => absurd e9 (nI_ne9 (by omega)), fun _ => ⟨fun e9 => absurd e9 (nI_ne9 (n := i) (by omega)), fun _ => ?_⟩⟩
          have e3j : (3 : Int32) + nI j = nI (3 + j) := nI_add 3 j
          have e3i : (3 : Int32) + LK (some (i, f)) = nI (3 + i) := nI_add 3 i
          rw [e3j, e3i, nI_cl (by omega), nI_cl (by omega), (hm.2.2.2 j hjn).1, (hm.2.2.2 i (by omega)).1]
          refine ⟨vin (by omega) (by decide), vin (by omega) (by decide), ?_⟩
          intro y hy
          have hr99 := hb.2.1
          have hd1 := (hb.2.2.2 j hjn).1
          have hd2 := (hb.2.2.2 i (by omega)).1
          have hy' : (now (1 : Int32).toNatClampNeg) * y = zI ((hRate h : Int) * ((hDay h j : Int) - (hDay h i : Int))) := by
            rw [hy, show now (1 : Int32).toNatClampNeg = nI (hRate h) from hm.2.1, zI_nI, zI_nI, zI_nI, zI_sub, zI_mul]
          have hk' : nI (ct h j (dg n c j) + t * hWrap h) - LF (some (i, f)) = zI (((ct h j (dg n c j) + t * hWrap h : Nat) : Int) - (f : Int)) := by
            show nI _ - nI f = _
            rw [zI_nI, zI_nI, zI_sub]
          have hbd : -98901 ≤ (hRate h : Int) * ((hDay h j : Int) - (hDay h i : Int)) ∧ (hRate h : Int) * ((hDay h j : Int) - (hDay h i : Int)) ≤ 98901 := by
            have h1 : (hRate h : Int) * ((hDay h j : Int) - (hDay h i : Int)) ≤ 99 * 999 := by
              apply Int.le_trans (Int.mul_le_mul_of_nonneg_left (show (hDay h j : Int) - (hDay h i : Int) ≤ 999 by omega) (by omega))
              exact Int.mul_le_mul_of_nonneg_right (by omega) (by decide)
            have h2 : (hRate h : Int) * ((hDay h i : Int) - (hDay h j : Int)) ≤ 99 * 999 := by
              apply Int.le_trans (Int.mul_le_mul_of_nonneg_left (show (hDay h i : Int) - (hDay h j : Int) ≤ 999 by omega) (by omega))
              exact Int.mul_le_mul_of_nonneg_right (by omega) (by decide)
            have h3 : (hRate h : Int) * ((hDay h j : Int) - (hDay h i : Int)) = - ((hRate h : Int) * ((hDay h i : Int) - (hDay h j : Int))) := by rw [← Int.mul_neg]; congr 1; omega
            omega
          refine cLT _ _ hy' hk' (by omega) (by omega) (fun er => ?_) (fun er => ?_)
          · refine hfail _ ?_ e
            rw [hst, if_pos (by unfold raceb; exact decide_eq_true er)]
          · refine hgo _ ?_ e
            rw [hst, if_neg (by unfold raceb; rw [decide_eq_true_eq]; omega)]
theorem m_goodOf (hb : HB h n) (hm : HM h n now) {c u : Nat} (hc : c < 3 ^ n) (hu : u ≤ n) {a1 a2 a3 : Int32} {Q : Int32 → Int32 → Int32 → Int32 → Prop} (hQ1 : ∀ q g T, fw h n c u = some (q, g, T) → Q (nI g) (nI T) (LK q) (LF q)) (hQ2 : fw h n c u = none → ∀ x y z, Q (-9) x y z) : wp_X9_goodOf now a1 a2 a3 (nI c) (nI u) Q := by
  have hn := hb.1
  have hgo : ∀ (e : Nat), e ≤ 10 → (0 < n → e = n - 1) → wp_X9_goodOf_b20 now Q (nI e) (nI c) (nI u) a1 a2 a3 := by
    intro e he hen
    unfold wp_X9_goodOf_b20
    refine m_power he ?_
    refine ⟨u + 1, ?_⟩
    have := m_goodLoop hb hm hu hQ1 hQ2 u 0 none 0 0 (nI (3 ^ e)) (by omega) rfl (fun h0 => by rw [hen h0]; rfl)
    rw [show c % 3 ^ (n - 0) = c from Nat.mod_eq_of_lt hc] at this
    exact this
  unfold wp_X9_goodOf
  intro x hx
  have hx' : x = nI n := by rw [hx]; exact hm.1
  subst hx'
  rcases Nat.eq_zero_or_pos n with h0 | h0
  · subst h0
    refine ⟨fun _ => hgo 0 (by omega) (fun h => absurd h (by omega)), fun e => absurd (show nI 0 - (1 : Int32) ≤ 0 by decide) e⟩
  · rw [nI_subL (by omega)]
    refine bLE (n - 1) 0 rfl rfl (by omega) (by decide) (fun e => ?_) (fun e => ?_)
    · have : n - 1 = 0 := by omega
      exact hgo 0 (by omega) (fun _ => by omega)
    · exact hgo (n - 1) (by omega) (fun _ => rfl)
end
