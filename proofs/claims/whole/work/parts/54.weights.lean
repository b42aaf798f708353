/-! ===== the best of each set in the class, and the weights ===== -/
theorem clr_plus : ∀ T, T < 1024 → ∀ i, i < 10 → T.testBit i = true → clr T i + 2 ^ i = T := by decide +kernel
theorem shl_1 : ∀ b, b < 11 → nI (2 ^ b) <<< ((1 : Int32) &&& 31) = nI (2 ^ (b + 1)) := by decide +kernel
def wo (f : Nat → Nat) (m : Nat) : Nat → Nat
  | 0 => 0
  | b + 1 => if m.testBit b then max (wo f m b) (f (m - 2 ^ b)) else wo f m b
theorem wo_t {f : Nat → Nat} {m b : Nat} (ht : m.testBit b = true) : wo f m (b + 1) = max (wo f m b) (f (m - 2 ^ b)) := by
  show (if m.testBit b then _ else _) = _
  rw [if_pos ht]
theorem wo_f {f : Nat → Nat} {m b : Nat} (ht : m.testBit b = false) : wo f m (b + 1) = wo f m b := by
  show (if m.testBit b then _ else _) = _
  rw [if_neg (by rw [ht]; decide)]
theorem and_2p_b : (List.range 1024).all (fun m => (List.range 11).all (fun b => Nat.beq (m &&& 2 ^ b) ((m.testBit b).toNat * 2 ^ b))) = true := by decide +kernel
theorem and_2p {m b : Nat} (hm : m < 1024) (hb : b < 11) : m &&& 2 ^ b = (m.testBit b).toNat * 2 ^ b := Nat.eq_of_beq_eq_true (all2 and_2p_b hm hb)
theorem wo_hi {f : Nat → Nat} {m b : Nat} (hm : m < 2 ^ b) : ∀ d, wo f m (b + d) = wo f m b
  | 0 => rfl
  | d + 1 => by
    show (if m.testBit (b + d) then _ else _) = _
    rw [Nat.testBit_lt_two_pow (Nat.lt_of_lt_of_le hm (Nat.pow_le_pow_right (by decide) (by omega)))]
    exact wo_hi hm d
theorem wo_up {f : Nat → Nat} {m : Nat} : ∀ (B b : Nat), b < B → m.testBit b = true → f (m - 2 ^ b) ≤ wo f m B
  | 0, b, hb, _ => absurd hb (Nat.not_lt_zero b)
  | B + 1, b, hb, ht => by
    unfold wo
    by_cases q : b = B
    · subst q; rw [ht]; show _ ≤ max _ _; omega
    · have := wo_up (f := f) B b (by omega) ht
      split <;> omega
theorem wo_at {f : Nat → Nat} {m : Nat} : ∀ (B : Nat), wo f m B = 0 ∨ ∃ b, b < B ∧ m.testBit b = true ∧ wo f m B = f (m - 2 ^ b)
  | 0 => Or.inl rfl
  | B + 1 => by
    have ih := wo_at (f := f) (m := m) B
    have keep : wo f m (B + 1) = wo f m B → (wo f m (B + 1) = 0 ∨ ∃ b, b < B + 1 ∧ m.testBit b = true ∧ wo f m (B + 1) = f (m - 2 ^ b)) := by
      intro e
      rw [e]
      rcases ih with ih | ⟨b, h1, h2, h3⟩
      · exact Or.inl ih
      · exact Or.inr ⟨b, by omega, h2, h3⟩
    cases ht : m.testBit B with
    | false => exact keep (wo_f ht)
    | true =>
      have e : wo f m (B + 1) = max (wo f m B) (f (m - 2 ^ B)) := wo_t ht
      rcases Nat.lt_or_ge (wo f m B) (f (m - 2 ^ B)) with q | q
      · exact Or.inr ⟨B, by omega, ht, by omega⟩
      · exact keep (by omega)
section
variable {h : HS} {n : Nat} {rate : Int32} {sd sf sg : Nat → Int32}
theorem VB_180 (hb : HB h n) (S : Nat) : VB h n S ≤ 180 := cls_le (gx_le hb (3 ^ n)) n S
theorem VB_0 (hb : HB h n) : VB h n 0 = 0 := by
  obtain ⟨x, T, h1, h2⟩ := VB_at hb (S := 0) (Nat.two_pow_pos n)
  have : T = 0 := Nat.eq_of_testBit_eq (fun i => by
    rw [Nat.zero_testBit]
    cases q : T.testBit i with
    | false => rfl
    | true => have := h2 i q; rw [Nat.zero_testBit] at this; cases this)
  subst this
  exact (RS_0 n x _ h1).2
theorem VB_mono (hb : HB h n) {S S' : Nat} (hS : S < 2 ^ n) (hS' : S' < 2 ^ n) (hs : sub S S') : VB h n S ≤ VB h n S' := by
  obtain ⟨x, T, h1, h2⟩ := VB_at hb hS
  exact VB_up hb hS' h1 (fun i hi => hs i (h2 i hi))
theorem x_without (hb : HB h n) {bests : Nat → Int32} {f : Nat → Nat} {m : Nat} (hm : m < 1024) (hm0 : 0 < m) (hbs : ∀ m', m' < m → bests m' = nI (f m')) (hf : ∀ m', f m' ≤ 180) {Q : Int32 → Prop} (hQ : Q (nI (wo f m 10))) : wp_X2_bestWithoutOne bests (nI m) Q := by
  have hwl : ∀ B, wo f m B ≤ 180 := by
    intro B
    rcases wo_at (f := f) (m := m) B with e | ⟨b, -, -, e⟩
    · omega
    · rw [e]; exact hf _
  have hloop : ∀ (d b : Nat), b + d = 10 → wp_X2_bestWithoutOne_h4 bests Q (d + 1) (nI m) (nI (wo f m b)) (nI (2 ^ b)) := by
    intro d
    have hend : ∀ b, b ≤ 10 → m < 2 ^ b → Q (nI (wo f m b)) := by
      intro b hb2 hlt
      have := wo_hi (f := f) hlt (10 - b)
      rw [show b + (10 - b) = 10 by omega] at this
      rw [← this]; exact hQ
    induction d with
    | zero =>
      intro b hbd
      have : b = 10 := by omega
      subst this
      rw [wp_X2_bestWithoutOne_h4]
      dsimp only
      refine bLT m (2 ^ 10) rfl rfl (by omega) (by decide) (fun q => hend 10 (Nat.le_refl _) q) (fun q => by omega)
    | succ d ih =>
      intro b hbd
      have hpb : 2 ^ b ≤ 1024 := p2_le (by omega)
      have hp0 : 0 < 2 ^ b := Nat.two_pow_pos b
      rw [wp_X2_bestWithoutOne_h4]
      dsimp only
      refine bLT m (2 ^ b) rfl rfl (by omega) (by omega) (fun q => hend b (by omega) q) (fun q => ?_)
      have hand : m &&& 2 ^ b = (m.testBit b).toNat * 2 ^ b := and_2p hm (by omega)
      rw [nI_and (by omega) (by omega), hand]
      have hnext : ∀ w : Int32, w = nI (wo f m (b + 1)) → wp_X2_bestWithoutOne_b28 bests Q (fun y0 y1 y2 => wp_X2_bestWithoutOne_h4 bests Q (d + 1) y0 y1 y2) (nI m) w (nI (2 ^ b)) := by
        intro w hw
        subst hw
        unfold wp_X2_bestWithoutOne_b28
        intro y hy
        rw [shl_1 b (by omega)] at hy
        subst hy
        exact ih (b + 1) (by omega)
      cases ht : m.testBit b with
      | false =>
        refine ⟨fun _ => hnext _ ?_, fun c => absurd (by rw [show (false.toNat) = 0 from rfl, Nat.zero_mul]; rfl) c⟩
        rw [wo_f ht]
      | true =>
        rw [show (true.toNat) = 1 from rfl, Nat.one_mul]
        refine ⟨fun c => absurd c (nI_ne0 hp0 (by omega)), fun _ => ?_⟩
        rw [nI_subN (by omega), nI_cl (by omega), hbs _ (by omega)]
        refine ⟨vin (by omega) (by decide), ?_⟩
        intro z hz
        refine hnext z ?_
        have h1 := hwl b
        have h2 := hf (m - 2 ^ b)
        rw [hz]
        have e : wo f m (b + 1) = max (wo f m b) (f (m - 2 ^ b)) := wo_t ht
        rw [e]
        by_cases c : wo f m b < f (m - 2 ^ b)
        · rw [if_pos ((nI_ltI (by omega) (by omega)).mpr c)]; congr 1; omega
        · rw [if_neg (fun c2 => c ((nI_ltI (by omega) (by omega)).mp c2))]; congr 1; omega
  exact ⟨11, hloop 10 0 rfl⟩
def LBS (h : HS) (n : Nat) (bests : Nat → Int32) : Prop := ∀ m, m < 2 ^ n → bests m = nI (VB h n (rv n m))
theorem x_lastOf (hb : HB h n) {m : Nat} (hm : m < 2 ^ n) (hm0 : 0 < m) {Q : Int32 → Prop} (hQ : Q (nI (n - 1 - ntz m))) : wp_X2_lastOf (nI n) (nI m) Q := by
  have hn := hb.1
  have hp := p2_le hn
  have hz := (rv_low n (by omega) m (by omega) hm hm0).1
  unfold wp_X2_lastOf wp_X2_lastOf_b22 wp_X6_size
  refine ⟨fun _ => ?_, fun q => absurd q (nI_ne0 hm0 (by omega))⟩
  refine x_ntz (by omega) hm0 ?_
  rw [nI_subL (by omega), nI_subN (by omega)]
  exact hQ
/-- the best of a set out of all kept and one dropped -/
theorem VB_max (hb : HB h n) {m : Nat} (hm : m < 2 ^ n) (hm0 : 0 < m) {kp : Nat → Int32} {b : Int32} (hkg : ∀ y, y / 8 = (n - 1 - ntz m) + 1 → KG h n kp (rv n m) y) (hmx : MX kp (n - 1 - ntz m) b) : (if b < nI (wo (fun m' => VB h n (rv n m')) m 10) then nI (wo (fun m' => VB h n (rv n m')) m 10) else b) = nI (VB h n (rv n m)) := by
  have hn := hb.1
  have hp := p2_le hn
  have hT := rv_lt n m
  obtain ⟨z1, z2, z3⟩ := rv_low n (by omega) m (by omega) hm hm0
  have hwo : wo (fun m' => VB h n (rv n m')) m 10 ≤ VB h n (rv n m) := by
    rcases wo_at (f := fun m' => VB h n (rv n m')) (m := m) 10 with e | ⟨c, e1, e2, e3⟩
    · omega
    · rw [e3]
      obtain ⟨r1, r2, r3⟩ := rv_less (by omega) (by omega) e1 hm e2
      refine VB_mono hb (rv_lt n _) hT (fun i hi => ?_)
      have hcl := clr_plus (rv n m) (by omega) (n - 1 - c) (by omega) r3
      have : rv n (m - 2 ^ c) = clr (rv n m) (n - 1 - c) := by omega
      rw [this, clr_tb (by omega) (by omega), Bool.and_eq_true] at hi
      exact hi.1
  have hwl := VB_180 hb (rv n m)
  have hge : ∀ (B : Nat), (∀ x g, RS h n x g (rv n m) → g ≤ B) → wo (fun m' => VB h n (rv n m')) m 10 ≤ B → VB h n (rv n m) ≤ B := by
    intro B h1 h2
    obtain ⟨x, T, a1, a2⟩ := VB_at hb hT
    by_cases e : T = rv n m
    · subst e; exact h1 x _ a1
    · have : ∃ i, (rv n m).testBit i = true ∧ T.testBit i = false := by
        rcases Classical.em (∃ i, (rv n m).testBit i = true ∧ T.testBit i = false) with q | q
        · exact q
        · exfalso
          apply e
          apply Nat.eq_of_testBit_eq
          intro i
          cases c : (rv n m).testBit i with
          | true =>
            cases d : T.testBit i with
            | true => rfl
            | false => exact absurd ⟨i, c, d⟩ q
          | false =>
            cases d : T.testBit i with
            | false => rfl
            | true => have := a2 i d; rw [c] at this; cases this
      obtain ⟨i, c, d⟩ := this
      have hi10 : i < 10 := by
        rcases Nat.lt_or_ge i 10 with q | q
        · exact q
        · rw [tb_hi (by omega) q] at c; cases c
      obtain ⟨r1, r2⟩ := rv_has (by omega) (by omega) hi10 hm c
      obtain ⟨s1, s2, s3⟩ := rv_less (by omega) (by omega) (show n - 1 - i < 10 by omega) hm r2
      rw [show n - 1 - (n - 1 - i) = i by omega] at s2 s3
      have hcl := clr_plus (rv n m) (by omega) i hi10 s3
      have heq : rv n (m - 2 ^ (n - 1 - i)) = clr (rv n m) i := by omega
      have h3 : VB h n (rv n m) ≤ VB h n (rv n (m - 2 ^ (n - 1 - i))) := by
        refine VB_up hb (rv_lt n _) a1 (fun j hj => ?_)
        rw [heq, clr_tb (by omega) hi10, a2 j hj, Bool.true_and, decide_eq_true_eq]
        intro q
        subst q
        rw [d] at hj; cases hj
      have h4 := wo_up (f := fun m' => VB h n (rv n m')) 10 (n - 1 - i) (by omega) r2
      exact Nat.le_trans h3 (Nat.le_trans h4 h2)
  have hblk : ∀ x g, RS h n x g (rv n m) → x / 8 = (n - 1 - ntz m) + 1 := by
    intro x g e
    rcases RS_blk n x g _ e with ⟨q, -⟩ | ⟨k, q1, q2, q3, q4, -⟩
    · exfalso
      have : 2 ^ (n - 1 - ntz m) ≤ rv n m := by rw [z2]; exact Nat.right_le_or
      have := Nat.two_pow_pos (n - 1 - ntz m)
      omega
    · have h1 : 2 ^ (n - 1 - ntz m) ≤ rv n m := by rw [z2]; exact Nat.right_le_or
      have h2 : rv n m < 2 ^ (n - 1 - ntz m + 1) := by
        have hpp : 2 ^ (n - 1 - ntz m + 1) = 2 ^ (n - 1 - ntz m) + 2 ^ (n - 1 - ntz m) := by rw [Nat.pow_succ]; omega
        rw [z2]; exact Nat.or_lt_two_pow (by omega) (by omega)
      have h3 : k < n - 1 - ntz m + 1 := (Nat.pow_lt_pow_iff_right (a := 2) (by decide)).mp (Nat.lt_of_le_of_lt q3 h2)
      have h4 : n - 1 - ntz m < k + 1 := (Nat.pow_lt_pow_iff_right (a := 2) (by decide)).mp (Nat.lt_of_le_of_lt h1 q4)
      omega
  rcases hmx with ⟨e, e2⟩ | ⟨u, y, e, e1, e2, e3, e4⟩
  · rw [e, if_pos (by rw [m1, zI_nI, zI_lt (by omega) (by omega) (by omega) (by omega)]; omega)]
    congr 1
    apply Nat.le_antisymm hwo
    refine hge _ (fun x g q => ?_) (Nat.le_refl _)
    exfalso
    have hx := hblk x g q
    rcases hkg x hx with ⟨-, q2⟩ | ⟨v, q2, q3, -⟩
    · exact q2 g q
    · rw [e2 x hx] at q2
      have := RS_180 hb q3
      exact nI_n1 (by omega) q2.symm
  · have hu : u ≤ VB h n (rv n m) := by
      rcases hkg y e2 with ⟨q, -⟩ | ⟨v, q, q2, -⟩
      · rw [e3] at q; exact absurd q (nI_n1 (by omega))
      · have := RS_180 hb q2
        rw [e3, nI_eq (by omega) (by omega)] at q
        subst q
        exact VB_up hb hT q2 (fun _ hi => hi)
    have hall : ∀ x g, RS h n x g (rv n m) → g ≤ u := by
      intro x g q
      have hx := hblk x g q
      rcases hkg x hx with ⟨-, q2⟩ | ⟨v, q2, q3, q4⟩
      · exact absurd q (q2 g)
      · have := e4 x v hx (RS_180 hb q3) q2
        have := q4 g q
        omega
    rw [e]
    by_cases c : u < wo (fun m' => VB h n (rv n m')) m 10
    · rw [if_pos ((nI_ltI (by omega) (by omega)).mpr c)]
      congr 1
      apply Nat.le_antisymm hwo
      exact hge _ (fun x g q => by have := hall x g q; omega) (Nat.le_refl _)
    · rw [if_neg (fun c2 => c ((nI_ltI (by omega) (by omega)).mp c2))]
      congr 1
      apply Nat.le_antisymm hu
      exact hge _ hall (by omega)
theorem x_findBests (hb : HB h n) (hr : rate = nI (hRate h)) (hS : SR h n sd sf sg) {bests kp : Nat → Int32} {kn : Int32} {Q : (Nat → Int32) → (Nat → Int32) → Int32 → Prop} (hQ : ∀ bests kp, LBS h n bests → Q bests kp 1) : wp_X2_findBests rate (nI n) sd sf sg bests kp kn Q := by
  have hn := hb.1
  have hp := p2_le hn
  have hpn : 0 < 2 ^ n := Nat.two_pow_pos n
  unfold wp_X2_findBests
  refine x_fill (by decide) (fun fr hfr => ?_)
  have hloop : ∀ (d m : Nat) (bests kp : Nat → Int32), m + d = 2 ^ n → 0 < m → (∀ m', m' < m → bests m' = nI (VB h n (rv n m'))) → kp 0 = nI 0 → (∀ y, y < 8 → 0 < y → kp y = -1) → (∀ b, b < 10 → (m - 1).testBit b = true → ∀ y, y / 8 = (n - 1 - b) + 1 → KG h n kp (rv n ((m - 1) / 2 ^ b * 2 ^ b)) y) → wp_X2_findBests_h24 rate (nI n) sd sf sg Q (d + 1) (nI m) bests kp kn := by
    intro d
    induction d with
    | zero =>
      intro m bests kp hm hm0 i1 i2 i3 i4
      rw [wp_X2_findBests_h24]
      dsimp only
      unfold wp_X6_size
      dsimp only
      rw [shl1 n (by omega)]
      exact bLE (2 ^ n) m rfl rfl (by omega) (by omega) (fun _ => hQ bests kp (fun m' hm' => i1 m' (by omega))) (fun q => by omega)
    | succ d ih =>
      intro m bests kp hm hm0 i1 i2 i3 i4
      have hmn : m < 2 ^ n := by omega
      have hm10 : m < 1024 := by omega
      obtain ⟨z1, z2, z3⟩ := rv_low n (by omega) m hm10 hmn hm0
      obtain ⟨t1, t2, t3⟩ := ntz_tb m hm10 hm0
      have hand : m &&& (m - 1) ≤ m - 1 := Nat.and_le_right
      rw [wp_X2_findBests_h24]
      dsimp only
      unfold wp_X6_size
      dsimp only
      rw [shl1 n (by omega)]
      refine bLE (2 ^ n) m rfl rfl (by omega) (by omega) (fun q => by omega) (fun _ => ?_)
      rw [nI_subL (by omega), nI_and (by omega) (by omega)]
      have hkn : n - 1 - ntz m < n := by omega
      -- the rest, once the stands of the one before are known
      have hgo : ∀ (v1 : Int32) (f : Nat), f % 8 = 0 → f < 8 * ((n - 1 - ntz m) + 1) → (∀ y, y / 8 = f / 8 → (XV n y ∧ KG h n kp (rv n (m &&& (m - 1))) y) ∨ (kp y = -1 ∧ ∀ g, ¬ RS h n y g (rv n (m &&& (m - 1))))) → (∀ y g, RS h n y g (rv n (m &&& (m - 1))) → y / 8 = f / 8) → (∀ Q : Int32 → Prop, Q (nI f) → wp_X6_standOf v1 (0 : Int32) Q) → wp_X2_lastOf (nI n) (nI m) (fun r49_3 => wp_X2_keepLast rate sd sf sg kp v1 r49_3 (fun r52_5 l_kept_52_4 => wp_X2_bestWithoutOne bests (nI m) (fun r64_6 => ∀ x67_7 : Int32, x67_7 = (if r52_5 < r64_6 then r64_6 else r52_5) → vp_in (nI m) 1024 ∧ ∀ x71_8 : Int32, x71_8 = nI m + 1 → wp_X2_findBests_h24 rate (nI n) sd sf sg Q (d + 1) x71_8 (upd bests (nI m).toNatClampNeg x67_7) l_kept_52_4 kn))) := by
        intro v1 f hf8 hfk hsrc hblk hv1
        refine x_lastOf hb hmn hm0 ?_
        refine x_keepLast hb hr hS hkn z3 hf8 hfk hsrc hblk hv1 (fun b kp' a1 a2 a3 => ?_)
        rw [← z2] at a2
        refine x_without hb (f := fun m' => VB h n (rv n m')) hm10 hm0 i1 (fun m' => VB_180 hb _) ?_
        intro z hz
        refine ⟨vin (by omega) (by decide), ?_⟩
        intro y hy
        have hy' : y = nI (m + 1) := by rw [hy]; exact nI_1 m
        subst hy'
        rw [nI_cl (by omega)]
        rw [VB_max hb hmn hm0 a2 a3] at hz
        refine ih (m + 1) _ kp' (by omega) (by omega) (fun m' hm' => ?_) (by rw [a1 0 (by omega)]; exact i2) (fun y q1 q2 => by rw [a1 y (by omega)]; exact i3 y q1 q2) (fun b hb10 htb y hy => ?_)
        · by_cases e : m' = m
          · subst e; rw [upd_s]; exact hz
          · rw [upd_n e]; exact i1 m' (by omega)
        · rw [Nat.add_sub_cancel] at htb ⊢
          by_cases e : b = ntz m
          · subst e
            rw [t3]
            exact a2 y hy
          · obtain ⟨p1, p2, p3'⟩ := pred_tb hm10 hb10 hm0 e htb
            have hbn : b < n := (rv_less (by omega) hm10 hb10 hmn htb).1
            have hne : y / 8 ≠ (n - 1 - ntz m) + 1 := by omega
            have := i4 b hb10 p2 y hy
            rw [p3']
            unfold KG at this ⊢
            rw [a1 y hne]
            exact this
      by_cases hP : m &&& (m - 1) = 0
      · rw [hP]
        rw [hP] at hgo
        have hrv0 : rv n 0 = 0 := by
          have : ∀ n, rv n 0 = 0 := by
            intro n
            induction n with
            | zero => rfl
            | succ n ih => unfold rv; rw [Nat.zero_div, ih]; omega
          exact this n
        rw [hrv0] at hgo
        unfold wp_X2_lastOf wp_X2_lastOf_b22
        refine ⟨fun q => absurd rfl q, fun _ => hgo (-1) 0 rfl (by omega) (fun y hy => ?_) (fun y g e => ?_) (fun Q hQ => hQ)⟩
        · by_cases e : y = 0
          · subst e
            exact Or.inl ⟨Or.inl rfl, Or.inr ⟨0, i2, RS_none h n, fun g q => by rw [(RS_0 n 0 g q).2]; exact Nat.le_refl _⟩⟩
          · exact Or.inr ⟨i3 y (by omega) (by omega), fun g q => e (RS_0 n y g q).1⟩
        · rw [(RS_0 n y g e).1]
      · have hP0 : 0 < m &&& (m - 1) := Nat.pos_of_ne_zero hP
        obtain ⟨u1, u2, u3⟩ := pre_tb m hm10 hm0 hP
        have hPn : m &&& (m - 1) < 2 ^ n := by omega
        obtain ⟨w1, w2, w3⟩ := rv_low n (by omega) (m &&& (m - 1)) (by omega) hPn hP0
        refine x_lastOf hb hPn hP0 ?_
        refine hgo _ (8 * ((n - 1 - ntz (m &&& (m - 1))) + 1)) (by omega) (by omega) (fun y hy => ?_) (fun y g e => ?_) (fun Q hQ => x_standOf (s := 0) (by rw [show ix (n - 1 - ntz (m &&& (m - 1))) 0 0 = 8 * ((n - 1 - ntz (m &&& (m - 1))) + 1) by unfold ix; omega]; exact hQ))
        · refine Or.inl ⟨by unfold XV; omega, ?_⟩
          have := i4 (ntz (m &&& (m - 1))) (by omega) u1 y (by omega)
          rw [u2] at this
          exact this
        · rcases RS_blk n y g _ e with ⟨q, -⟩ | ⟨k, q1, q2, q3, q4, -⟩
          · exfalso
            have : 2 ^ (n - 1 - ntz (m &&& (m - 1))) ≤ rv n (m &&& (m - 1)) := by rw [w2]; exact Nat.right_le_or
            have := Nat.two_pow_pos (n - 1 - ntz (m &&& (m - 1)))
            omega
          · have h1 : 2 ^ (n - 1 - ntz (m &&& (m - 1))) ≤ rv n (m &&& (m - 1)) := by rw [w2]; exact Nat.right_le_or
            have h2 : rv n (m &&& (m - 1)) < 2 ^ (n - 1 - ntz (m &&& (m - 1)) + 1) := by
              have hpp : 2 ^ (n - 1 - ntz (m &&& (m - 1)) + 1) = 2 ^ (n - 1 - ntz (m &&& (m - 1))) + 2 ^ (n - 1 - ntz (m &&& (m - 1))) := by rw [Nat.pow_succ]; omega
              rw [w2]; exact Nat.or_lt_two_pow (by omega) (by omega)
            have h3 : k < n - 1 - ntz (m &&& (m - 1)) + 1 := (Nat.pow_lt_pow_iff_right (a := 2) (by decide)).mp (Nat.lt_of_le_of_lt q3 h2)
            have h4 : n - 1 - ntz (m &&& (m - 1)) < k + 1 := (Nat.pow_lt_pow_iff_right (a := 2) (by decide)).mp (Nat.lt_of_le_of_lt h1 q4)
            omega
  have e0 : (0 : Int32).toNatClampNeg = 0 := rfl
  rw [e0]
  refine ⟨2 ^ n - 1 + 1, hloop (2 ^ n - 1) 1 _ _ (by omega) (by omega) (fun m' hm' => ?_) (upd_s _ _ _) (fun y q1 q2 => by rw [upd_n (by omega)]; exact hfr y (by omega)) (fun b hb10 htb => ?_)⟩
  · have : m' = 0 := by omega
    subst this
    rw [upd_s]
    have hrv0 : ∀ n, rv n 0 = 0 := by
      intro n
      induction n with
      | zero => rfl
      | succ n ih => unfold rv; rw [Nat.zero_div, ih]; omega
    rw [hrv0 n, VB_0 hb]
    rfl
  · rw [show 1 - 1 = 0 from rfl, Nat.zero_testBit] at htb
    cases htb
end
