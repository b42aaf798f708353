/-! ===== SWAP in the class; solve ===== -/
def swp (A B : Nat → Nat) (best : Nat) : Nat → Nat × Option Nat
  | 0 => (best, none)
  | j + 1 => if (swp A B best j).1 < A (j + 1) + B (j + 1) then (A (j + 1) + B (j + 1), some (j + 1)) else swp A B best j
def sAt (v : Nat × Option Nat) : Int32 := match v.2 with
  | none => -9
  | some t => nI t
def sGood (v : Nat × Option Nat) : Int32 := match v.2 with
  | none => -9
  | some _ => nI v.1
def sA (h : HS) (t : Nat) : Nat := (GG h t 0 none).1
def sB (h : HS) (n t : Nat) : Nat := (GG h (n - t) t none).1
theorem GG_max (h : HS) (r k : Nat) : (GG h (r + 1) k none).1 = max ((GG h r (k + 1) (some (k, ct h k 0))).1 + gd h k 0) (max ((GG h r (k + 1) (some (k, ct h k 1))).1 + gd h k 1) (GG h r (k + 1) none).1) := by
  have e := GG_succ h r k none
  have c0 : cand h (GG h r (k + 1)) none k 0 = some (sh (gd h k 0) (2 ^ k) (GG h r (k + 1) (some (k, ct h k 0)))) := by unfold cand; rw [stp_none]; rfl
  have c1 : cand h (GG h r (k + 1)) none k 1 = some (sh (gd h k 1) (2 ^ k) (GG h r (k + 1) (some (k, ct h k 1)))) := by unfold cand; rw [stp_none]; rfl
  rw [c0, c1, oc_ss, oc_ss] at e
  have := congrArg Prod.fst (Option.some.inj e)
  rw [ac_1, ac_1, sh_1, sh_1] at this
  exact this
section
variable {h : HS} {n : Nat} {U : Nat → Int32} {r : Nat → Int32} {w : Nat → Int64} {e a : Nat → Int32}
theorem x_goodAhead (hb : HB h n) (hU : UF h n U) (hU8 : ∀ y, y < 8 → 0 < y → U y = -1) {t : Nat} (ht : t ≤ n) {Q : Int32 → Prop} (hQ : Q (nI (sA h t))) : wp_X5_goodAhead U (nI t) Q := by
  have hn := hb.1
  have hixt : ix t 0 0 = 8 * (t + 1) := by unfold ix; omega
  have hloop : ∀ (d s m : Nat), s + d = 8 * (t + 1) → m ≤ 180 → (∀ y u, y < s → U y = nI u → u ≤ 180 → u ≤ m) → (m = 0 ∨ ∃ y, y < s ∧ XV n y ∧ U y = nI m) → wp_X5_goodAhead_h4 U Q (d + 1) (nI t) (nI m) (nI s) := by
    intro d
    induction d with
    | zero =>
      intro s m hs hm h1 h2
      rw [wp_X5_goodAhead_h4]
      dsimp only
      refine x_standOf (s := 0) ?_
      refine bLE (ix t 0 0) s rfl rfl (by omega) (by omega) (fun _ => ?_) (fun q => by omega)
      have hle : m ≤ sA h t := by
        rcases h2 with h2 | ⟨y, q1, q2, q3⟩
        · omega
        · rcases hU.1 y q2 with q4 | ⟨u, q4, q5⟩
          · rw [q3] at q4
            exact absurd q4 (by rw [m1, zI_nI, zI_eq (by omega) (by omega) (by omega) (by omega)]; omega)
          · have hy8 : y / 8 ≤ n := by unfold XV at q2; omega
            have hu := RX_g hb _ _ _ hy8 q5
            rw [q3, nI_eq (by omega) (by omega)] at q4
            subst q4
            have := RX_up t 0 y m (RX_le q5 (by omega))
            exact this
      have hge : sA h t ≤ m := by
        obtain ⟨y, hy⟩ := RX_at t 0 0 0 (show RX h 0 0 0 from ⟨rfl, rfl⟩)
        rw [Nat.zero_add, Nat.zero_add] at hy
        obtain ⟨u, q1, q2, q3⟩ := hU.2 t y _ ht hy
        have := (RX_x t y _ hy).1
        have := h1 y u (by unfold XV at this; omega) q1 q3
        exact Nat.le_trans q2 this
      have : m = sA h t := by omega
      rw [this]; exact hQ
    | succ d ih =>
      intro s m hs hm h1 h2
      rw [wp_X5_goodAhead_h4]
      dsimp only
      refine x_standOf (s := 0) ?_
      refine bLE (ix t 0 0) s rfl rfl (by omega) (by omega) (fun q => by omega) (fun _ => ?_)
      rw [nI_cl (by omega)]
      refine ⟨vin (by omega) (by decide), ?_⟩
      intro x hx y hy
      have hy' : y = nI (s + 1) := by rw [hy]; exact nI_1 s
      subst hy'
      have hskip : U s = -1 → wp_X5_goodAhead_h4 U Q (d + 1) (nI t) x (nI (s + 1)) := by
        intro q
        have hx' : x = nI m := by
          rw [hx, q, if_neg (by rw [m1, zI_nI, zI_lt (by omega) (by omega) (by omega) (by omega)]; omega)]
        subst hx'
        refine ih (s + 1) m (by omega) hm (fun y u q1 q2 q3 => ?_) ?_
        · by_cases q4 : y = s
          · subst q4
            rw [q] at q2
            exact absurd q2.symm (by rw [m1, zI_nI, zI_eq (by omega) (by omega) (by omega) (by omega)]; omega)
          · exact h1 y u (by omega) q2 q3
        · rcases h2 with h2 | ⟨y, q1, q2, q3⟩
          · exact Or.inl h2
          · exact Or.inr ⟨y, by omega, q2, q3⟩
      by_cases hsv : XV n s
      · rcases hU.1 s hsv with q | ⟨u, q, hrx⟩
        · exact hskip q
        · have hs8 : s / 8 ≤ n := by unfold XV at hsv; omega
          have hu := RX_g hb _ _ _ hs8 hrx
          have hu' : u ≤ 180 := by omega
          have hx' : x = nI (max m u) := by
            rw [hx, q]
            by_cases q2 : m < u
            · rw [if_pos ((nI_ltI (by omega) (by omega)).mpr q2)]; congr 1; omega
            · rw [if_neg (fun q3 => q2 ((nI_ltI (by omega) (by omega)).mp q3))]; congr 1; omega
          subst hx'
          refine ih (s + 1) (max m u) (by omega) (by omega) (fun y v q1 q2 q3 => ?_) ?_
          · by_cases q4 : y = s
            · subst q4
              rw [q, nI_eq (by omega) (by omega)] at q2
              omega
            · have := h1 y v (by omega) q2 q3
              omega
          · by_cases q2 : m < u
            · exact Or.inr ⟨s, by omega, hsv, by rw [q]; congr 1; omega⟩
            · rcases h2 with h2 | ⟨y, q3, q4, q5⟩
              · exact Or.inl (by omega)
              · exact Or.inr ⟨y, by omega, q4, by rw [q5]; congr 1; omega⟩
      · exact hskip (hU8 s (by unfold XV at hsv; omega) (by unfold XV at hsv; omega))
  exact ⟨8 * (t + 1) + 1, hloop (8 * (t + 1)) 0 0 (by omega) (by omega) (fun y u q => absurd q (Nat.not_lt_zero y)) (Or.inl rfl)⟩
theorem x_goodFrom (hb : HB h n) (hU : UF h n U) (hB : BF h n U r w e a) {t : Nat} (ht : t ≤ n) {Q : Int32 → Prop} (hQ : Q (nI (sB h n t))) : wp_X5_goodFrom (nI n) r (nI t) Q := by
  have hn := hb.1
  have hrest : ∀ k s, k < n → s < 2 → r (ix k s 0) = nI ((GG h (n - (k + 1)) (k + 1) (some (k, ct h k s))).1 + gd h k s) ∧ (GG h (n - (k + 1)) (k + 1) (some (k, ct h k s))).1 + gd h k s ≤ 180 := by
    intro k s hk hs
    have hrx : RX h (k + 1) (ix k s 0) (0 + gd h k s) := Or.inr ⟨0, 0, s, 0, RX_le (show RX h 0 0 0 from ⟨rfl, rfl⟩) (by omega), hs, rfl, rfl, rfl⟩
    have := (SV_ix hs (show 0 < 4 by omega) (rx_sv hU hB (show k + 1 ≤ n by omega) hrx)).1
    rw [sh_1, Nat.zero_mul, Nat.add_zero] at this
    have hG := (GG_ok hb (n - (k + 1)) (k + 1) (some (k, ct h k s)) (by omega)).1
    have hg := gd_le (s := s) hb hk
    exact ⟨this, by omega⟩
  have hloop : ∀ (d k m : Nat), k + d = n → m ≤ 180 → max m (GG h (n - k) k none).1 = sB h n t → wp_X5_goodFrom_h4 (nI n) r Q (d + 1) (nI m) (nI k) := by
    intro d
    induction d with
    | zero =>
      intro k m hk hm h1
      have : k = n := by omega
      subst this
      rw [wp_X5_goodFrom_h4]
      dsimp only
      unfold wp_X6_size
      refine bLE k k rfl rfl (by omega) (by omega) (fun _ => ?_) (fun q => by omega)
      rw [Nat.sub_self] at h1
      have h2 : max m 0 = sB h k t := h1
      have : m = sB h k t := by omega
      rw [this]; exact hQ
    | succ d ih =>
      intro k m hk hm h1
      have hkn : k < n := by omega
      rw [wp_X5_goodFrom_h4]
      dsimp only
      unfold wp_X6_size
      refine bLE n k rfl rfl (by omega) (by omega) (fun q => by omega) (fun _ => ?_)
      rw [show n - k = (n - (k + 1)) + 1 by omega, GG_max] at h1
      obtain ⟨r0, b0⟩ := hrest k 0 hkn (by decide)
      obtain ⟨r1, b1⟩ := hrest k 1 hkn (by decide)
      have hmx : ∀ (m v : Nat) (x : Int32), m ≤ 180 → v ≤ 180 → x = (if nI m < nI v then nI v else nI m) → x = nI (max m v) := by
        intro m v x q1 q2 q3
        rw [q3]
        by_cases q : m < v
        · rw [if_pos ((nI_ltI (by omega) (by omega)).mpr q)]; congr 1; omega
        · rw [if_neg (fun q4 => q ((nI_ltI (by omega) (by omega)).mp q4))]; congr 1; omega
      have hixl : ∀ s, s < 2 → ix k s 0 < 88 := by intro s hs; unfold ix; omega
      refine ⟨3, ?_⟩
      rw [wp_X5_goodFrom_h18]
      dsimp only
      refine ⟨fun q => absurd q (by decide), fun _ => ?_⟩
      refine x_standOf (s := 0) ?_
      have l0 := hixl 0 (by decide)
      have l1 := hixl 1 (by decide)
      rw [nI_cl (by omega), r0]
      refine ⟨vin l0 (by decide), ?_⟩
      intro x1 hx1 y1 hy1
      have hx1' := hmx _ _ _ hm b0 hx1
      have hy1' : y1 = nI 1 := hy1
      subst hx1' hy1'
      rw [wp_X5_goodFrom_h18]
      dsimp only
      refine ⟨fun q => absurd q (by decide), fun _ => ?_⟩
      refine x_standOf (s := 1) ?_
      rw [nI_cl (by omega), r1]
      refine ⟨vin l1 (by decide), ?_⟩
      intro x2 hx2 y2 hy2
      have hx2' := hmx _ _ _ (by omega) b1 hx2
      have hy2' : y2 = nI 2 := hy2
      subst hx2' hy2'
      rw [wp_X5_goodFrom_h18]
      dsimp only
      refine ⟨fun _ => ?_, fun q => absurd (show (2 : Int32) ≤ nI 2 by decide) q⟩
      intro y3 hy3
      have hy3' : y3 = nI (k + 1) := by rw [hy3]; exact nI_1 k
      subst hy3'
      exact ih (k + 1) _ (by omega) (by omega) (by omega)
  exact ⟨n - t + 1, hloop (n - t) t 0 (by omega) (by omega) (by show max 0 (sB h n t) = _; omega)⟩
theorem swp_le {A B : Nat → Nat} {b : Nat} (hA : ∀ t, A t + B t ≤ 1000) (hb : b ≤ 1000) : ∀ j, (swp A B b j).1 ≤ 1000
  | 0 => hb
  | j + 1 => by
    have := swp_le hA hb j
    have := hA (j + 1)
    unfold swp
    split
    · assumption
    · assumption
theorem sAB_le (hb : HB h n) {t : Nat} (ht : t ≤ n) : sA h t ≤ 180 ∧ sB h n t ≤ 180 := by
  have hn := hb.1
  have h1 := (GG_ok hb t 0 none (by omega)).1
  have h2 := (GG_ok hb (n - t) t none (by omega)).1
  unfold sA sB
  omega
theorem x_findSwap (hb : HB h n) (hU : UF h n U) (hU8 : ∀ y, y < 8 → 0 < y → U y = -1) (hB : BF h n U r w e a) {s1 s2 : Int32} {Q : Int32 → Int32 → Prop} (hQ : Q (sAt (swp (sA h) (sB h n) (GG h n 0 none).1 (n - 1))) (sGood (swp (sA h) (sB h n) (GG h n 0 none).1 (n - 1)))) : wp_X5_findSwap (nI n) U r s1 s2 Q := by
  have hn := hb.1
  have hG := (GG_ok hb n 0 none (by omega)).1
  have hm : ∀ j, j + 1 ≤ n ∨ j = 0 → (swp (sA h) (sB h n) (GG h n 0 none).1 j).1 ≤ 1000 := by
    intro j
    induction j with
    | zero => intro _; show (GG h n 0 none).1 ≤ 1000; omega
    | succ j ih =>
      intro hj
      have := ih (by omega)
      have := sAB_le hb (show j + 1 ≤ n by omega)
      unfold swp
      split
      · show _ + _ ≤ 1000; omega
      · assumption
  have hloop : ∀ (d j : Nat), j + d = n - 1 → (n = 0 → j = 0) → wp_X5_findSwap_h19 (nI n) U r Q (d + 1) (nI (swp (sA h) (sB h n) (GG h n 0 none).1 j).1) (nI (j + 1)) (sAt (swp (sA h) (sB h n) (GG h n 0 none).1 j)) (sGood (swp (sA h) (sB h n) (GG h n 0 none).1 j)) := by
    intro d
    induction d with
    | zero =>
      intro j hj hj0
      rw [wp_X5_findSwap_h19]
      dsimp only
      unfold wp_X6_size
      refine bLE n (j + 1) rfl rfl (by omega) (by omega) (fun _ => ?_) (fun q => by omega)
      rw [show n - 1 = j by omega] at hQ
      exact hQ
    | succ d ih =>
      intro j hj hj0
      rw [wp_X5_findSwap_h19]
      dsimp only
      unfold wp_X6_size
      refine bLE n (j + 1) rfl rfl (by omega) (by omega) (fun q => by omega) (fun _ => ?_)
      refine x_goodAhead hb hU hU8 (show j + 1 ≤ n by omega) ?_
      refine x_goodFrom hb hU hB (show j + 1 ≤ n by omega) ?_
      intro x hx
      rw [nI_add] at hx
      subst hx
      obtain ⟨l1, l2⟩ := sAB_le hb (show j + 1 ≤ n by omega)
      have l3 := hm j (by omega)
      have hnext := ih (j + 1) (by omega) (by omega)
      unfold wp_X5_findSwap_b59
      refine bLE _ _ rfl rfl (by omega) (by omega) (fun q => ?_) (fun q => ?_)
      · intro y hy
        have hy' : y = nI (j + 1 + 1) := by rw [hy]; exact nI_1 (j + 1)
        subst hy'
        have : swp (sA h) (sB h n) (GG h n 0 none).1 (j + 1) = swp (sA h) (sB h n) (GG h n 0 none).1 j := by
          show (if _ then _ else _) = _
          rw [if_neg (by omega)]
        rw [this] at hnext
        exact hnext
      · intro y hy
        have hy' : y = nI (j + 1 + 1) := by rw [hy]; exact nI_1 (j + 1)
        subst hy'
        have : swp (sA h) (sB h n) (GG h n 0 none).1 (j + 1) = (sA h (j + 1) + sB h n (j + 1), some (j + 1)) := by
          show (if _ then _ else _) = _
          rw [if_pos (by omega)]
        rw [this] at hnext
        exact hnext
  unfold wp_X5_findSwap wp_X5_bestGood
  obtain ⟨hs0, -⟩ := rx_sv hU hB (t := 0) (x := 0) (g := 0) (by omega) ⟨rfl, rfl⟩
  have h0 : r (0 : Int32).toNatClampNeg = nI (GG h n 0 none).1 := by
    show r 0 = _
    rw [hs0]
    rfl
  rw [h0]
  exact ⟨n - 1 + 1, hloop (n - 1) 0 (by omega) (fun _ => rfl)⟩
/-- what the class's rows say of a house, once it is solved -/
def SO (h : HS) (n : Nat) (sd sf sg U r : Nat → Int32) (w : Nat → Int64) (e a fs rs : Nat → Int32) (kp s1 s2 : Int32) : Prop :=
  SR h n sd sf sg ∧ r 0 = nI (GG h n 0 none).1 ∧ w 0 = lN (GG h n 0 none).2.1 ∧ e 0 = nI (GG h n 0 none).2.2.1 ∧ a 0 = nI (GG h n 0 none).2.2.2 ∧ FF h n fs rs kp ∧ s1 = sAt (swp (sA h) (sB h n) (GG h n 0 none).1 (n - 1)) ∧ s2 = sGood (swp (sA h) (sB h n) (GG h n 0 none).1 (n - 1))
theorem x_solve (hb : HB h n) {rate wrap size : Int32} {days firsts seconds : Nat → Int32} (hc : HC h n rate wrap size days firsts seconds) {sd sf sg U r : Nat → Int32} {w : Nat → Int64} {e a fs rs : Nat → Int32} {kp s1 s2 : Int32} (h0 : sg 0 = nI 0) {Q : (Nat → Int32) → (Nat → Int32) → (Nat → Int32) → (Nat → Int32) → (Nat → Int32) → (Nat → Int64) → (Nat → Int32) → (Nat → Int32) → (Nat → Int32) → (Nat → Int32) → Int32 → Int32 → Int32 → Prop}
    (hQ : ∀ sd sf sg U r w e a fs rs kp s1 s2, SO h n sd sf sg U r w e a fs rs kp s1 s2 → Q sd sf sg U r w e a fs rs kp s1 s2) : wp_X5_solve rate wrap days firsts seconds size sd sf sg U r w e a fs rs kp s1 s2 Q := by
  unfold wp_X5_solve
  refine x_measure hb hc h0 (fun sd sf sg hS => ?_)
  obtain ⟨c1, c2, -⟩ := hc
  subst c1
  refine x_forward hb c2 rfl hS (fun U hU hU8 => ?_)
  refine x_backward hb c2 hS hU hU8 (fun r w e a hB => ?_)
  refine x_chooseFirst hb c2 hS hU hB (fun fs rs kp hF => ?_)
  refine x_findSwap hb hU hU8 hB ?_
  obtain ⟨q1, q2, q3, q4⟩ := rx_sv hU hB (t := 0) (x := 0) (g := 0) (by omega) ⟨rfl, rfl⟩
  refine hQ _ _ _ _ _ _ _ _ _ _ _ _ _ ⟨hS, ?_, ?_, ?_, ?_, hF, rfl, rfl⟩
  · rw [q1]; rfl
  · rw [q2]; rfl
  · rw [q3]
    congr 1
    show _ ||| 0 = _
    rw [Nat.or_zero]; rfl
  · rw [q4]
    congr 1
    show _ ||| 0 = _
    rw [Nat.or_zero]; rfl
end
