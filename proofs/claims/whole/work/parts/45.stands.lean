/-! ===== the class: stands ===== -/
def ix (k s t : Nat) : Nat := ((k + 1) * 2 + s) * 4 + t
/-- what a stand says -/
def sgm (h : HS) (x : Nat) : SG := if x = 0 then none else some (x / 8 - 1, ct h (x / 8 - 1) (x / 4 % 2) + x % 4 * hWrap h)
theorem sgm_0 (h : HS) : sgm h 0 = none := rfl
theorem ix_8 {k s t : Nat} (hs : s < 2) (ht : t < 4) : ix k s t / 8 = k + 1 ∧ ix k s t / 4 % 2 = s ∧ ix k s t % 4 = t ∧ ix k s t ≠ 0 := by unfold ix; omega
theorem sgm_ix (h : HS) {k s t : Nat} (hs : s < 2) (ht : t < 4) : sgm h (ix k s t) = some (k, ct h k s + t * hWrap h) := by
  obtain ⟨h1, h2, h3, h4⟩ := ix_8 (k := k) hs ht
  unfold sgm
  rw [if_neg h4, h1, h2, h3]
  rfl
/-- the class's rows of a house -/
def HC (h : HS) (n : Nat) (rate wrap size : Int32) (days firsts seconds : Nat → Int32) : Prop := size = nI n ∧ rate = nI (hRate h) ∧ wrap = nI (hWrap h) ∧ ∀ k, k < n → days k = nI (hDay h k) ∧ firsts k = nI (hCnt h k) ∧ seconds k = nI (hWor h k)
def SR (h : HS) (n : Nat) (sd sf sg : Nat → Int32) : Prop := sg 0 = nI 0 ∧ ∀ k s t, k < n → s < 2 → t < 4 → sd (ix k s t) = nI (hDay h k) ∧ sf (ix k s t) = nI (ct h k s + t * hWrap h) ∧ sg (ix k s t) = nI (gd h k s)
theorem x_standOf {k s : Nat} {Q : Int32 → Prop} (hQ : Q (nI (ix k s 0))) : wp_X6_standOf (nI k) (nI s) Q := by
  unfold wp_X6_standOf
  rw [nI_addL, nI_mulL, nI_add, nI_mulL]
  exact hQ
theorem x_place {wrap : Int32} {sd sf sg : Nat → Int32} {f c w : Nat} {day good : Int32} (hf : f + 4 ≤ 88) (hw : wrap = nI w) {Q : (Nat → Int32) → (Nat → Int32) → (Nat → Int32) → Prop}
    (hQ : ∀ sd' sf' sg' : Nat → Int32, (∀ t, t < 4 → sd' (f + t) = day ∧ sf' (f + t) = nI (c + t * w) ∧ sg' (f + t) = good) → (∀ j, j < f ∨ f + 4 ≤ j → sd' j = sd j ∧ sf' j = sf j ∧ sg' j = sg j) → Q sd' sf' sg') : wp_X6_place wrap sd sf sg (nI f) day (nI c) good Q := by
  have hloop : ∀ (d t : Nat) (sd' sf' sg' : Nat → Int32), t + d = 4 → (∀ u, u < t → sd' (f + u) = day ∧ sf' (f + u) = nI (c + u * w) ∧ sg' (f + u) = good) → (∀ j, j < f ∨ f + t ≤ j → sd' j = sd j ∧ sf' j = sf j ∧ sg' j = sg j) → wp_X6_place_h3 wrap Q (d + 1) (nI f) day (nI c) good (nI t) sd' sf' sg' := by
    intro d
    induction d with
    | zero =>
      intro t sd' sf' sg' ht h1 h2
      have : t = 4 := by omega
      subst this
      rw [wp_X6_place_h3]
      dsimp only
      exact bLE 4 4 rfl rfl (by decide) (by decide) (fun _ => hQ _ _ _ h1 h2) (fun e => by omega)
    | succ d ih =>
      intro t sd' sf' sg' ht h1 h2
      rw [wp_X6_place_h3]
      dsimp only
      refine bLE 4 t rfl rfl (by decide) (by omega) (fun e => by omega) (fun _ => ?_)
      rw [nI_add, nI_cl (by omega)]
      have hin : vp_in (nI (f + t)) 88 := vin (by omega) (by decide)
      refine ⟨hin, ?_⟩
      intro x hx
      refine ⟨hin, hin, ?_⟩
      intro y hy
      have hx' : x = nI (c + t * w) := by rw [hx, hw, pk_mul, nI_add]
      have hy' : y = nI (t + 1) := by rw [hy]; exact nI_1 t
      subst hx' hy'
      refine ih (t + 1) (upd sd' (f + t) day) (upd sf' (f + t) _) (upd sg' (f + t) good) (by omega) (fun u hu => ?_) (fun j hj => ?_)
      · by_cases e : u = t
        · subst e; rw [upd_s, upd_s, upd_s]; exact ⟨rfl, rfl, rfl⟩
        · rw [upd_n (by omega), upd_n (by omega), upd_n (by omega)]; exact h1 u (by omega)
      · rw [upd_n (by omega), upd_n (by omega), upd_n (by omega)]; exact h2 j (by omega)
  exact ⟨5, hloop 4 0 sd sf sg rfl (fun u hu => absurd hu (Nat.not_lt_zero u)) (fun j _ => ⟨rfl, rfl, rfl⟩)⟩
section
variable {h : HS} {n : Nat} {rate wrap size : Int32} {days firsts seconds : Nat → Int32}
theorem x_measure (hb : HB h n) (hc : HC h n rate wrap size days firsts seconds) {sd sf sg : Nat → Int32} (h0 : sg 0 = nI 0) {Q : (Nat → Int32) → (Nat → Int32) → (Nat → Int32) → Prop} (hQ : ∀ sd sf sg, SR h n sd sf sg → Q sd sf sg) : wp_X6_measure wrap days firsts seconds size sd sf sg Q := by
  have hn := hb.1
  obtain ⟨c1, c2, c3, c4⟩ := hc
  have hloop : ∀ (d k : Nat) (sd sf sg : Nat → Int32), k + d = n → SR h k sd sf sg → wp_X6_measure_h10 wrap days firsts seconds size Q (d + 1) (nI k) sd sf sg := by
    intro d
    induction d with
    | zero =>
      intro k sd sf sg hk hS
      have : k = n := by omega
      subst this
      rw [wp_X6_measure_h10]
      dsimp only
      exact bLE k k c1 rfl (by omega) (by omega) (fun _ => hQ _ _ _ hS) (fun e => by omega)
    | succ d ih =>
      intro k sd sf sg hk hS
      have hkn : k < n := by omega
      obtain ⟨d1, d2, d3⟩ := c4 k hkn
      obtain ⟨l1, l2, l3⟩ := hb.2.2.2 k hkn
      rw [wp_X6_measure_h10]
      dsimp only
      refine bLE n k c1 rfl (by omega) (by omega) (fun e => by omega) (fun _ => ?_)
      rw [nI_cl (by omega), d1, d2, d3]
      have hin : vp_in (nI k) 10 := vin (by omega) (by decide)
      refine ⟨hin, ?_⟩
      intro x hx
      subst hx
      refine ⟨hin, ?_⟩
      intro y hy
      subst hy
      refine x_standOf (s := 0) ⟨hin, ?_⟩
      refine x_place (c := hCnt h k) (by unfold ix; omega) c3 (fun sd1 sf1 sg1 p1 p2 => ?_)
      refine x_standOf (s := 1) ⟨hin, ?_⟩
      rw [nI_mulL, nI_divL (by omega) (by decide) (by decide), nI_Lmul] at *
      refine x_place (c := hCnt h k * 5 / 8) (by unfold ix; omega) c3 (fun sd2 sf2 sg2 q1 q2 => ?_)
      intro z hz
      have hz' : z = nI (k + 1) := by rw [hz]; exact nI_1 k
      subst hz'
      refine ih (k + 1) sd2 sf2 sg2 (by omega) ⟨?_, ?_⟩
      · rw [(q2 0 (by unfold ix; omega)).2.2, (p2 0 (by unfold ix; omega)).2.2]; exact hS.1
      · intro k' s t hk' hs ht
        by_cases e : k' = k
        · subst e
          rcases (show s = 0 ∨ s = 1 by omega) with rfl | rfl
          · have e0 : ix k' 0 t = ix k' 0 0 + t := by unfold ix; omega
            have o : ix k' 0 t < ix k' 1 0 ∨ ix k' 1 0 + 4 ≤ ix k' 0 t := by unfold ix; omega
            rw [(q2 _ o).1, (q2 _ o).2.1, (q2 _ o).2.2, e0]
            have := p1 t ht
            refine ⟨this.1, ?_, ?_⟩
            · rw [this.2.1]; unfold ct; rw [if_neg (by decide)]
            · rw [this.2.2]; unfold gd; rw [if_pos rfl]
          · have e0 : ix k' 1 t = ix k' 1 0 + t := by unfold ix; omega
            rw [e0]
            have := q1 t ht
            refine ⟨this.1, ?_, ?_⟩
            · rw [this.2.1]; unfold ct; rw [if_pos rfl]
            · rw [this.2.2]; unfold gd; rw [if_neg (by decide)]
        · have o1 : ix k' s t < ix k 1 0 ∨ ix k 1 0 + 4 ≤ ix k' s t := by unfold ix; omega
          have o2 : ix k' s t < ix k 0 0 ∨ ix k 0 0 + 4 ≤ ix k' s t := by unfold ix; omega
          rw [(q2 _ o1).1, (q2 _ o1).2.1, (q2 _ o1).2.2, (p2 _ o2).1, (p2 _ o2).2.1, (p2 _ o2).2.2]
          exact hS.2 k' s t (by omega) hs ht
  exact ⟨n + 1, hloop n 0 sd sf sg (by omega) ⟨h0, fun k s t hk => absurd hk (Nat.not_lt_zero k)⟩⟩
/-- a stand that may be: none, or of one of the readings -/
def XV (n x : Nat) : Prop := x = 0 ∨ (8 ≤ x ∧ x < 8 * (n + 1))
theorem XV_ix {k s t : Nat} (hk : k < n) (hs : s < 2) (ht : t < 4) : XV n (ix k s t) := by unfold XV ix; omega
theorem XV_dec {x : Nat} (hx : XV n x) (h0 : x ≠ 0) : ∃ k s t, k < n ∧ s < 2 ∧ t < 4 ∧ x = ix k s t := by
  unfold XV at hx
  exact ⟨x / 8 - 1, x / 4 % 2, x % 4, by omega, by omega, by omega, by unfold ix; omega⟩
def fol (h : HS) (q : SG) (k s : Nat) : Int32 := match q with
  | none => nI (ix k s 0)
  | some (j, f) => match trn (ct h k s) f (hWrap h) with
    | none => -1
    | some t => if raceb h j f k (ct h k s + t * hWrap h) then -2 else nI (ix k s t)
theorem rate_bd (hb : HB h n) {j i : Nat} (hj : j < n) (hi : i < n) : -98901 ≤ (hRate h : Int) * ((hDay h j : Int) - (hDay h i : Int)) ∧ (hRate h : Int) * ((hDay h j : Int) - (hDay h i : Int)) ≤ 98901 := by
  have hr99 := hb.2.1
  have hd1 := (hb.2.2.2 j hj).1
  have hd2 := (hb.2.2.2 i hi).1
  have h1 : (hRate h : Int) * ((hDay h j : Int) - (hDay h i : Int)) ≤ 99 * 999 := by
    apply Int.le_trans (Int.mul_le_mul_of_nonneg_left (show (hDay h j : Int) - (hDay h i : Int) ≤ 999 by omega) (by omega))
    exact Int.mul_le_mul_of_nonneg_right (by omega) (by decide)
  have h2 : (hRate h : Int) * ((hDay h i : Int) - (hDay h j : Int)) ≤ 99 * 999 := by
    apply Int.le_trans (Int.mul_le_mul_of_nonneg_left (show (hDay h i : Int) - (hDay h j : Int) ≤ 999 by omega) (by omega))
    exact Int.mul_le_mul_of_nonneg_right (by omega) (by decide)
  have h3 : (hRate h : Int) * ((hDay h j : Int) - (hDay h i : Int)) = - ((hRate h : Int) * ((hDay h i : Int) - (hDay h j : Int))) := by rw [← Int.mul_neg]; congr 1; omega
  omega
theorem x_following (hb : HB h n) {sd sf sg : Nat → Int32} (hr : rate = nI (hRate h)) (hS : SR h n sd sf sg) {x k s : Nat} (hx : XV n x) (hk : k < n) (hs : s < 2) {Q : Int32 → Prop} (hQ : Q (fol h (sgm h x) k s)) : wp_X6_following rate sd sf (nI x) (nI k) (nI s) Q := by
  have hn := hb.1
  have hw := hb.2.2.1
  unfold wp_X6_following
  refine x_standOf ?_
  refine bNE x 0 rfl rfl (by unfold XV at hx; omega) (by decide) (fun e0 => ?_) (fun e0 => ?_)
  · obtain ⟨j, s', t', hj, hs', ht', ex⟩ := XV_dec hx e0
    have hcl := ct_le (s := s) hb hk
    have hcl' := ct_le (s := s') hb hj
    have htw' : t' * hWrap h ≤ 3 * 9999 := Nat.mul_le_mul (by omega) hw
    rw [ex, sgm_ix h hs' ht'] at hQ
    obtain ⟨r1, r2, r3⟩ := hS.2 j s' t' hj hs' ht'
    have hxl : x < 88 := by unfold XV at hx; omega
    generalize hfd : ct h j s' + t' * hWrap h = f at *
    have hloop : ∀ (d t : Nat), t + d = 4 → (∀ u, u < t → ct h k s + u * hWrap h < f) → wp_X6_following_h17 rate sd sf Q (d + 1) (nI x) (nI (ix k s 0)) (nI t) := by
      intro d
      induction d with
      | zero =>
        intro t ht hu
        have : t = 4 := by omega
        subst this
        rw [wp_X6_following_h17]
        dsimp only
        refine bLE 4 4 rfl rfl (by decide) (by decide) (fun _ => ?_) (fun e => by omega)
        have h0 := hu 0
        have h1 := hu 1
        have h2 := hu 2
        have h3 := hu 3
        have htr : trn (ct h k s) f (hWrap h) = none := by
          unfold trn
          rw [if_neg (by omega), if_neg (by omega), if_neg (by omega), if_neg (by omega)]
        unfold fol at hQ
        dsimp only at hQ
        rw [htr] at hQ
        exact hQ
      | succ d ih =>
        intro t ht hu
        have htw : t * hWrap h ≤ 3 * 9999 := Nat.mul_le_mul (by omega) hw
        obtain ⟨g1, g2, g3⟩ := hS.2 k s t hk hs (by omega)
        obtain ⟨g4, -, -⟩ := hS.2 k s 0 hk hs (by omega)
        have eix : ix k s 0 + t = ix k s t := by unfold ix; omega
        have hixl : ix k s t < 88 := by unfold ix; omega
        have hixl0 : ix k s 0 < 88 := by unfold ix; omega
        rw [wp_X6_following_h17]
        dsimp only
        refine bLE 4 t rfl rfl (by decide) (by omega) (fun e => by omega) (fun _ => ?_)
        rw [nI_add, eix, nI_cl (by omega), nI_cl (by omega), nI_cl (by omega), g2, ex, r2, r1, g4, ← ex]
        refine ⟨vin (by omega) (by decide), vin (by omega) (by decide), ?_⟩
        intro z hz
        have hz' : z = zI (((ct h k s + t * hWrap h : Nat) : Int) - (f : Int)) := by rw [hz, zI_nI, zI_nI, zI_sub]
        refine cLT _ 0 hz' rfl (by omega) (by omega) (fun er => ?_) (fun er => ?_)
        · intro y hy
          have hy' : y = nI (t + 1) := by rw [hy]; exact nI_1 t
          subst hy'
          exact ih (t + 1) (by omega) (lt_s hu (by omega))
        · refine ⟨vin (by omega) (by decide), vin (by omega) (by decide), ?_⟩
          have htr : trn (ct h k s) f (hWrap h) = some t := by
            unfold trn
            have h0 := hu 0
            have h1 := hu 1
            have h2 := hu 2
            rcases (show t = 0 ∨ t = 1 ∨ t = 2 ∨ t = 3 by omega) with rfl | rfl | rfl | rfl
            · rw [if_pos (by omega)]
            · rw [if_neg (by omega), if_pos (by omega)]
            · rw [if_neg (by omega), if_neg (by omega), if_pos (by omega)]
            · rw [if_neg (by omega), if_neg (by omega), if_neg (by omega), if_pos (by omega)]
          unfold fol at hQ
          dsimp only at hQ
          rw [htr] at hQ
          dsimp only at hQ
          unfold wp_X6_mostGone wp_X6_following_b79
          have hbd := rate_bd hb hk hj
          have hm : rate * (nI (hDay h k) - nI (hDay h j)) = zI ((hRate h : Int) * ((hDay h k : Int) - (hDay h j : Int))) := by rw [hr, zI_nI, zI_nI, zI_nI, zI_sub, zI_mul]
          refine cLT _ _ hm hz' (by omega) (by omega) (fun er2 => ?_) (fun er2 => ?_)
          · rw [if_pos (by unfold raceb; exact decide_eq_true er2)] at hQ
            exact hQ
          · rw [if_neg (by unfold raceb; rw [decide_eq_true_eq]; omega)] at hQ
            exact hQ
    exact ⟨5, hloop 4 0 rfl (fun u hu => absurd hu (Nat.not_lt_zero u))⟩
  · subst e0
    exact hQ
end
theorem fol_some {h : HS} {q : SG} {k s t : Nat} (e : stt h q k s = some t) : fol h q k s = nI (ix k s t) := by
  unfold stt at e
  unfold fol
  cases q with
  | none => cases e; rfl
  | some v =>
    obtain ⟨j, f⟩ := v
    dsimp only at e ⊢
    cases htr : trn (ct h k s) f (hWrap h) with
    | none => rw [htr] at e; cases e
    | some u =>
      rw [htr] at e
      dsimp only at e ⊢
      split at e
      · cases e
      · rename_i hr
        cases e
        rw [if_neg hr]
theorem fol_none {h : HS} {q : SG} {k s : Nat} (e : stt h q k s = none) : fol h q k s < 0 := by
  unfold stt at e
  unfold fol
  cases q with
  | none => cases e
  | some v =>
    obtain ⟨j, f⟩ := v
    dsimp only at e ⊢
    cases htr : trn (ct h k s) f (hWrap h) with
    | none => dsimp only; decide
    | some u =>
      rw [htr] at e
      dsimp only at e ⊢
      split at e
      · rename_i hr
        rw [if_pos hr]; decide
      · cases e
