/-! ===== the class goes forward ===== -/
def RX (h : HS) : Nat → Nat → Nat → Prop
  | 0, x, g => x = 0 ∧ g = 0
  | t + 1, x, g => RX h t x g ∨ ∃ x0 g0 s u, RX h t x0 g0 ∧ s < 2 ∧ stt h (sgm h x0) t s = some u ∧ x = ix t s u ∧ g = g0 + gd h t s
theorem RX_mono {h : HS} {x g : Nat} : ∀ (d t : Nat), RX h t x g → RX h (t + d) x g
  | 0, _, e => e
  | d + 1, t, e => Or.inl (RX_mono d t e)
theorem RX_le {h : HS} {x g t t' : Nat} (e : RX h t x g) (ht : t ≤ t') : RX h t' x g := by
  have := RX_mono (t' - t) t e
  rw [show t + (t' - t) = t' by omega] at this
  exact this
theorem RX_x {h : HS} : ∀ (t x g : Nat), RX h t x g → XV t x ∧ x / 8 ≤ t
  | 0, x, g, e => by
    obtain ⟨rfl, _⟩ := e
    exact ⟨Or.inl rfl, by omega⟩
  | t + 1, x, g, e => by
    rcases e with e | ⟨x0, g0, s, u, h1, h2, h3, h4, h5⟩
    · have := RX_x t x g e
      unfold XV at this ⊢
      omega
    · have hu := stt_le h3
      subst h4
      unfold XV ix
      omega
theorem RX_g {h : HS} {n : Nat} (hb : HB h n) : ∀ (t x g : Nat), t ≤ n → RX h t x g → g ≤ 18 * t
  | 0, x, g, _, e => by obtain ⟨_, rfl⟩ := e; omega
  | t + 1, x, g, ht, e => by
    rcases e with e | ⟨x0, g0, s, u, h1, h2, h3, h4, h5⟩
    · have := RX_g hb t x g (by omega) e; omega
    · have := RX_g hb t x0 g0 (by omega) h1
      have := gd_le (s := s) hb (show t < n by omega)
      omega
theorem stp_of_stt {h : HS} {q : SG} {k s t : Nat} (e : stt h q k s = some t) : stp h q k s = some (ct h k s + t * hWrap h) := by unfold stp; rw [e]; rfl
theorem stt_of_stp {h : HS} {q : SG} {k s f : Nat} (e : stp h q k s = some f) : ∃ t, stt h q k s = some t ∧ f = ct h k s + t * hWrap h := by
  unfold stp at e
  cases ht : stt h q k s with
  | none => rw [ht] at e; cases e
  | some t => rw [ht] at e; exact ⟨t, rfl, (Option.some.inj e).symm⟩
theorem oc_1l {x y : Option AG} {z a : AG} (e : some z = oc x y) (ex : x = some a) : a.1 ≤ z.1 := by
  subst ex
  cases y with
  | none => cases e; exact Nat.le_refl _
  | some b => cases e; rw [ac_1]; omega
theorem oc_1c {x y : Option AG} {z : AG} (e : some z = oc x y) : (∃ a, x = some a ∧ z.1 = a.1) ∨ ∃ b, y = some b ∧ z.1 = b.1 := by
  cases x with
  | none => exact Or.inr ⟨z, e.symm, rfl⟩
  | some a => cases y with
    | none => exact Or.inl ⟨a, rfl, congrArg Prod.fst (Option.some.inj e)⟩
    | some b =>
      have e' : z = ac a b := Option.some.inj e
      rw [e', ac_1]
      rcases Nat.lt_or_ge a.1 b.1 with q | q
      · exact Or.inr ⟨b, rfl, by omega⟩
      · exact Or.inl ⟨a, rfl, by omega⟩
theorem oc_1r {x y : Option AG} {z b : AG} (e : some z = oc x y) (ey : y = some b) : b.1 ≤ z.1 := by
  rw [oc_comm] at e
  exact oc_1l e ey
theorem GG_drop (h : HS) (r k : Nat) (q : SG) : (GG h r (k + 1) q).1 ≤ (GG h (r + 1) k q).1 := by
  have e := GG_succ h r k q
  generalize GG h (r + 1) k q = z at e ⊢
  generalize GG h r (k + 1) q = d at e ⊢
  generalize cand h (GG h r (k + 1)) q k 0 = c0 at e
  generalize cand h (GG h r (k + 1)) q k 1 = c1 at e
  obtain ⟨z1, hz1⟩ := oc_some_r c1 d
  have h1 := oc_1r hz1.symm rfl
  have h2 := oc_1r e hz1
  omega
theorem GG_keep (h : HS) (r k : Nat) (q : SG) {s f : Nat} (hs : s < 2) (e : stp h q k s = some f) : (GG h r (k + 1) (some (k, f))).1 + gd h k s ≤ (GG h (r + 1) k q).1 := by
  have e2 := GG_succ h r k q
  have hc : cand h (GG h r (k + 1)) q k s = some (sh (gd h k s) (2 ^ k) (GG h r (k + 1) (some (k, f)))) := by unfold cand; rw [e]; rfl
  have h0 : (sh (gd h k s) (2 ^ k) (GG h r (k + 1) (some (k, f)))).1 = (GG h r (k + 1) (some (k, f))).1 + gd h k s := rfl
  rw [← h0]
  generalize sh (gd h k s) (2 ^ k) (GG h r (k + 1) (some (k, f))) = v at hc ⊢
  generalize GG h (r + 1) k q = z at e2 ⊢
  generalize GG h r (k + 1) q = d at e2
  rcases (show s = 0 ∨ s = 1 by omega) with rfl | rfl
  · exact oc_1l e2 hc
  · obtain ⟨z1, hz1⟩ := oc_some_r (cand h (GG h r (k + 1)) q k 1) d
    have h1 := oc_1l hz1.symm hc
    have h2 := oc_1r e2 hz1
    omega
theorem GG_case (h : HS) (r k : Nat) (q : SG) : (GG h (r + 1) k q).1 = (GG h r (k + 1) q).1 ∨ ∃ s f, s < 2 ∧ stp h q k s = some f ∧ (GG h (r + 1) k q).1 = (GG h r (k + 1) (some (k, f))).1 + gd h k s := by
  have hc : ∀ s a, cand h (GG h r (k + 1)) q k s = some a → ∃ f, stp h q k s = some f ∧ a.1 = (GG h r (k + 1) (some (k, f))).1 + gd h k s := by
    intro s a e
    unfold cand at e
    cases hs : stp h q k s with
    | none => rw [hs] at e; cases e
    | some f => rw [hs] at e; cases e; exact ⟨f, rfl, rfl⟩
  rcases oc_1c (GG_succ h r k q) with ⟨a, e1, e2⟩ | ⟨b, e1, e2⟩
  · obtain ⟨f, e3, e4⟩ := hc 0 a e1
    exact Or.inr ⟨0, f, by decide, e3, by rw [e2, e4]⟩
  · rcases oc_1c e1.symm with ⟨a, e3, e4⟩ | ⟨a, e3, e4⟩
    · obtain ⟨f, e5, e6⟩ := hc 1 a e3
      exact Or.inr ⟨1, f, by decide, e5, by rw [e2, e4, e6]⟩
    · cases e3
      exact Or.inl (by rw [e2, e4])
theorem RX_up {h : HS} : ∀ (t r x g : Nat), RX h t x g → g + (GG h r t (sgm h x)).1 ≤ (GG h (t + r) 0 none).1
  | 0, r, x, g, e => by
    obtain ⟨rfl, rfl⟩ := e
    rw [Nat.zero_add, Nat.zero_add]
    exact Nat.le_refl _
  | t + 1, r, x, g, e => by
    rcases e with e | ⟨x0, g0, s, u, h1, h2, h3, h4, h5⟩
    · have := RX_up t (r + 1) x g e
      have h2 := GG_drop h r t (sgm h x)
      rw [show t + (r + 1) = t + 1 + r by omega] at this
      omega
    · have := RX_up t (r + 1) x0 g0 h1
      have h6 := GG_keep h r t (sgm h x0) h2 (stp_of_stt h3)
      have h7 := stt_le h3
      subst h4 h5
      rw [sgm_ix h h2 (by omega)]
      rw [show t + (r + 1) = t + 1 + r by omega] at this
      omega
theorem RX_at {h : HS} : ∀ (r t x g : Nat), RX h t x g → ∃ y, RX h (t + r) y (g + (GG h r t (sgm h x)).1)
  | 0, t, x, g, e => ⟨x, e⟩
  | r + 1, t, x, g, e => by
    rcases GG_case h r t (sgm h x) with e1 | ⟨s, f, hs, e1, e2⟩
    · obtain ⟨y, hy⟩ := RX_at r (t + 1) x g (Or.inl e)
      refine ⟨y, ?_⟩
      rw [e1, show t + (r + 1) = t + 1 + r by omega]
      exact hy
    · obtain ⟨u, e3, e4⟩ := stt_of_stp e1
      have hu := stt_le e3
      obtain ⟨y, hy⟩ := RX_at r (t + 1) (ix t s u) (g + gd h t s) (Or.inr ⟨x, g, s, u, e, hs, e3, rfl, rfl⟩)
      refine ⟨y, ?_⟩
      rw [sgm_ix h hs (by omega), ← e4] at hy
      rw [e2, show t + (r + 1) = t + 1 + r by omega]
      rw [show g + ((GG h r (t + 1) (some (t, f))).1 + gd h t s) = g + gd h t s + (GG h r (t + 1) (some (t, f))).1 by omega]
      exact hy
/-- Arrays.fill -/
theorem x_fill {N : Nat} {f : Nat → Int32} {v : Int32} (hN : N < 2000000) {Q : (Nat → Int32) → Prop} (hQ : ∀ f' : Nat → Int32, (∀ j, j < N → f' j = v) → Q f') : wp_J7_fill_53178 N f v Q := by
  unfold wp_J7_fill_53178
  intro x hx
  subst hx
  have hloop : ∀ (d t : Nat) (f : Nat → Int32), t + d = N → (∀ j, j < t → f j = v) → wp_J7_fill_53178_h5 N Q (d + 1) v (nI t) (nI N) f := by
    intro d
    induction d with
    | zero =>
      intro t f ht hf
      have : t = N := by omega
      subst this
      rw [wp_J7_fill_53178_h5]
      dsimp only
      exact bLE t t rfl rfl (by omega) (by omega) (fun _ => hQ f hf) (fun e => by omega)
    | succ d ih =>
      intro t f ht hf
      rw [wp_J7_fill_53178_h5]
      dsimp only
      refine bLE N t rfl rfl (by omega) (by omega) (fun e => by omega) (fun _ => ⟨vin (by omega) (by omega), ?_⟩)
      intro y hy
      have hy' : y = nI (t + 1) := by rw [hy]; exact nI_1 t
      subst hy'
      rw [nI_cl (by omega)]
      refine ih (t + 1) (upd f t v) (by omega) (fun j hj => ?_)
      by_cases e : j = t
      · subst e; exact upd_s _ _ _
      · rw [upd_n e]; exact hf j (by omega)
  exact ⟨N + 1, hloop N 0 f (by omega) (fun j hj => absurd hj (Nat.not_lt_zero j))⟩
/-- a row of until -/
def UI (h : HS) (n : Nat) (U : Nat → Int32) : Prop := ∀ y, XV n y → U y = -1 ∨ ∃ u, U y = nI u ∧ RX h (y / 8) y u
section
variable {h : HS} {n : Nat} {rate size : Int32} {sd sf sg : Nat → Int32}
theorem x_readingOf {x : Nat} (hx : x < 1000) {Q : Int32 → Prop} (hQ : Q (nI (x / 8) - 1)) : wp_X6_readingOf (nI x) Q := by
  unfold wp_X6_readingOf
  rw [nI_divL (by omega) (by decide) (by decide)]
  exact hQ
theorem x_spread (hb : HB h n) (hr : rate = nI (hRate h)) (hz : size = nI n) (hS : SR h n sd sf sg) {U : Nat → Int32} (hU : UI h n U) {x u0 : Nat} (hx : XV n x) (hux : U x = nI u0) (hrx : RX h (x / 8) x u0) {Q : (Nat → Int32) → Prop}
    (hQ : ∀ U' : Nat → Int32, UI h n U' → (∀ y, y < 8 * (x / 8 + 1) → U' y = U y) → (∀ y u, XV n y → U y = nI u → u ≤ 180 → ∃ u', U' y = nI u' ∧ u ≤ u' ∧ u' ≤ 180) → (∀ k s t, x / 8 ≤ k → k < n → s < 2 → stt h (sgm h x) k s = some t → ∃ u', U' (ix k s t) = nI u' ∧ u0 + gd h k s ≤ u' ∧ u' ≤ 180) → Q U') : wp_X5_spread rate size sd sf sg U (nI x) Q := by
  have hn := hb.1
  have hx8 : x / 8 ≤ n := by unfold XV at hx; omega
  have hxl : x < 88 := by unfold XV at hx; omega
  have hu0 := RX_g hb _ _ _ hx8 hrx
  have h180 : ∀ (U : Nat → Int32), UI h n U → ∀ y u, XV n y → U y = nI u → u < 2147483648 → u ≤ 180 := by
    intro U hU y u hy e hu
    rcases hU y hy with e1 | ⟨u1, e1, e2⟩
    · rw [e1] at e
      exact absurd e.symm (by rw [m1, zI_nI, zI_eq (by omega) (by omega) (by omega) (by omega)]; omega)
    · have hy8 : y / 8 ≤ n := by unfold XV at hy; omega
      have := RX_g hb _ _ _ hy8 e2
      rw [e1, nI_eq (by omega) hu] at e
      omega
  have hlx : ∀ (k s : Nat) (U' : Nat → Int32), (∀ y, y < 8 * (x / 8 + 1) → U' y = U y) → U' x = nI u0 := by
    intro k s U' h1
    rw [h1 x (by omega)]; exact hux
  have hin : ∀ (K : Int32 → Int32 → (Nat → Int32) → Prop) (k : Nat), x / 8 ≤ k → k < n →
      (∀ U' : Nat → Int32, UI h n U' → (∀ y, y < 8 * (x / 8 + 1) → U' y = U y) → (∀ y u, XV n y → U y = nI u → u ≤ 180 → ∃ u', U' y = nI u' ∧ u ≤ u' ∧ u' ≤ 180) → (∀ k' s t, x / 8 ≤ k' → k' < k + 1 → s < 2 → stt h (sgm h x) k' s = some t → ∃ u', U' (ix k' s t) = nI u' ∧ u0 + gd h k' s ≤ u' ∧ u' ≤ 180) → K (nI x) (nI (k + 1)) U') →
      ∀ (d s : Nat) (U' : Nat → Int32), s + d = 2 → UI h n U' → (∀ y, y < 8 * (x / 8 + 1) → U' y = U y) → (∀ y u, XV n y → U y = nI u → u ≤ 180 → ∃ u', U' y = nI u' ∧ u ≤ u' ∧ u' ≤ 180) → (∀ k' s' t, x / 8 ≤ k' → (k' < k ∨ (k' = k ∧ s' < s)) → s' < 2 → stt h (sgm h x) k' s' = some t → ∃ u', U' (ix k' s' t) = nI u' ∧ u0 + gd h k' s' ≤ u' ∧ u' ≤ 180) → wp_X5_spread_h20 rate size sd sf sg Q K (d + 1) (nI x) (nI k) (nI s) U' := by
    intro K k hk1 hk2 hK d
    induction d with
    | zero =>
      intro s U' hs i1 i2 i3 i4
      have : s = 2 := by omega
      subst this
      rw [wp_X5_spread_h20]
      dsimp only
      refine bLE 2 2 rfl rfl (by decide) (by decide) (fun _ => ?_) (fun e => by omega)
      intro y hy
      have hy' : y = nI (k + 1) := by rw [hy]; exact nI_1 k
      subst hy'
      exact hK U' i1 i2 i3 (fun k' s t a b c e => i4 k' s t a (by omega) c e)
    | succ d ih =>
      intro s U' hs i1 i2 i3 i4
      have hgd := gd_le (s := s) hb hk2
      rw [wp_X5_spread_h20]
      dsimp only
      refine bLE 2 s rfl rfl (by decide) (by omega) (fun e => by omega) (fun _ => ?_)
      refine x_following hb hr hS hx hk2 (by omega) ?_
      have hnext : ∀ U2 : Nat → Int32, UI h n U2 → (∀ y, y < 8 * (x / 8 + 1) → U2 y = U y) → (∀ y u, XV n y → U y = nI u → u ≤ 180 → ∃ u', U2 y = nI u' ∧ u ≤ u' ∧ u' ≤ 180) → (∀ k' s' t, x / 8 ≤ k' → (k' < k ∨ (k' = k ∧ s' < s + 1)) → s' < 2 → stt h (sgm h x) k' s' = some t → ∃ u', U2 (ix k' s' t) = nI u' ∧ u0 + gd h k' s' ≤ u' ∧ u' ≤ 180) → wp_X5_spread_b76 rate size sd sf sg Q K (fun y0 y1 y2 y3 => wp_X5_spread_h20 rate size sd sf sg Q K (d + 1) y0 y1 y2 y3) (nI x) (nI k) (nI s) U2 := by
        intro U2 a b c e
        unfold wp_X5_spread_b76
        intro y hy
        have hy' : y = nI (s + 1) := by rw [hy]; exact nI_1 s
        subst hy'
        exact ih (s + 1) U2 (by omega) a b c e
      cases hst : stt h (sgm h x) k s with
      | none =>
        refine ⟨fun _ => hnext U' i1 i2 i3 (fun k' s' t a b c e => ?_), fun e => absurd (fol_none hst) e⟩
        by_cases e2 : k' = k ∧ s' = s
        · obtain ⟨rfl, rfl⟩ := e2
          rw [hst] at e; cases e
        · exact i4 k' s' t a (by omega) c e
      | some t =>
        have ht := stt_le hst
        have hixv : XV n (ix k s t) := XV_ix hk2 (by omega) (by omega)
        have hixl : ix k s t < 88 := by unfold XV at hixv; omega
        have hixg : 8 * (x / 8 + 1) ≤ ix k s t := by unfold ix; omega
        rw [fol_some hst]
        refine ⟨fun e => absurd e (nI_pos (by omega)), fun _ => ?_⟩
        rw [nI_cl (by omega), nI_cl (by omega), hlx k s U' i2, (hS.2 k s t hk2 (by omega) (by omega)).2.2, nI_add]
        have hv : vp_in (nI (ix k s t)) 88 := vin hixl (by decide)
        refine ⟨hv, vin (by omega) (by decide), hv, ?_⟩
        intro z hz
        refine ⟨hv, ?_⟩
        have hrxn : RX h (ix k s t / 8) (ix k s t) (u0 + gd h k s) := by
          rw [(ix_8 (k := k) (show s < 2 by omega) (show t < 4 by omega)).1]
          exact Or.inr ⟨x, u0, s, t, RX_le hrx hk1, by omega, hst, rfl, rfl⟩
        have hnl : u0 + gd h k s ≤ 180 := by
          have := RX_g hb _ _ _ (show ix k s t / 8 ≤ n by unfold XV at hixv; omega) hrxn
          have : ix k s t / 8 ≤ 10 := by unfold XV at hixv; omega
          omega
        have hzz : ∃ w, z = nI w ∧ RX h (ix k s t / 8) (ix k s t) w ∧ u0 + gd h k s ≤ w ∧ w ≤ 180 ∧ (∀ u, U' (ix k s t) = nI u → u ≤ 180 → u ≤ w) := by
          rcases i1 _ hixv with e | ⟨w, e, hw⟩
          · rw [e, if_pos (by rw [m1, zI_nI, zI_lt (by omega) (by omega) (by omega) (by omega)]; omega)] at hz
            refine ⟨_, hz, hrxn, Nat.le_refl _, hnl, fun u hu hu2 => ?_⟩
            rw [e] at hu
            exact absurd hu.symm (by rw [m1, zI_nI, zI_eq (by omega) (by omega) (by omega) (by omega)]; omega)
          · have hw2 : w ≤ 180 := by
              have := RX_g hb _ _ _ (show ix k s t / 8 ≤ n by unfold XV at hixv; omega) hw
              have : ix k s t / 8 ≤ 10 := by unfold XV at hixv; omega
              omega
            rw [e] at hz
            by_cases q : w < u0 + gd h k s
            · rw [if_pos ((nI_ltI (by omega) (by omega)).mpr q)] at hz
              refine ⟨_, hz, hrxn, Nat.le_refl _, hnl, fun u hu hu2 => ?_⟩
              rw [e, nI_eq (by omega) (by omega)] at hu
              omega
            · rw [if_neg (fun q2 => q ((nI_ltI (by omega) (by omega)).mp q2))] at hz
              refine ⟨_, hz, hw, by omega, hw2, fun u hu hu2 => ?_⟩
              rw [e, nI_eq (by omega) (by omega)] at hu
              omega
        obtain ⟨w, ew, w1, w2, w3, w4⟩ := hzz
        subst ew
        have i2' : ∀ y, y < 8 * (x / 8 + 1) → upd U' (ix k s t) (nI w) y = U y := fun y hy => by rw [upd_n (by omega)]; exact i2 y hy
        refine hnext _ ?_ i2' ?_ ?_
        · intro y hy
          by_cases e : y = ix k s t
          · subst e; rw [upd_s]; exact Or.inr ⟨w, rfl, w1⟩
          · rw [upd_n e]; exact i1 y hy
        · intro y u hy e1 e2
          obtain ⟨u', a, b, c⟩ := i3 y u hy e1 e2
          by_cases e : y = ix k s t
          · subst e; rw [upd_s]; exact ⟨w, rfl, by have := w4 u' a c; omega, w3⟩
          · rw [upd_n e]; exact ⟨u', a, b, c⟩
        · intro k' s' t' a b c e
          by_cases e2 : k' = k ∧ s' = s
          · obtain ⟨rfl, rfl⟩ := e2
            rw [hst] at e; cases e
            rw [upd_s]; exact ⟨w, rfl, w2, w3⟩
          · have ht' := stt_le e
            have hne : ix k' s' t' ≠ ix k s t := by unfold ix; omega
            rw [upd_n hne]
            exact i4 k' s' t' a (by omega) c e
  have hout : ∀ (d k : Nat) (U' : Nat → Int32), k + d = n → x / 8 ≤ k → UI h n U' → (∀ y, y < 8 * (x / 8 + 1) → U' y = U y) → (∀ y u, XV n y → U y = nI u → u ≤ 180 → ∃ u', U' y = nI u' ∧ u ≤ u' ∧ u' ≤ 180) → (∀ k' s t, x / 8 ≤ k' → k' < k → s < 2 → stt h (sgm h x) k' s = some t → ∃ u', U' (ix k' s t) = nI u' ∧ u0 + gd h k' s ≤ u' ∧ u' ≤ 180) → wp_X5_spread_h7 rate size sd sf sg Q (d + 1) (nI x) (nI k) U' := by
    intro d
    induction d with
    | zero =>
      intro k U' hk hk1 i1 i2 i3 i4
      have : k = n := by omega
      subst this
      rw [wp_X5_spread_h7]
      dsimp only
      unfold wp_X6_size
      exact bLE k k hz rfl (by omega) (by omega) (fun _ => hQ U' i1 i2 i3 i4) (fun e => by omega)
    | succ d ih =>
      intro k U' hk hk1 i1 i2 i3 i4
      rw [wp_X5_spread_h7]
      dsimp only
      unfold wp_X6_size
      refine bLE n k hz rfl (by omega) (by omega) (fun e => by omega) (fun _ => ?_)
      refine ⟨3, hin _ k hk1 (by omega) (fun U2 a b c e => ih (k + 1) U2 (by omega) (by omega) a b c e) 2 0 U' rfl i1 i2 i3 (fun k' s t a b c e => i4 k' s t a (by omega) c e)⟩
  unfold wp_X5_spread
  refine x_readingOf (by omega) ?_
  intro y hy
  have hy' : y = nI (x / 8) := by
    rw [hy, zI_nI, show (1 : Int32) = zI 1 from rfl, zI_sub, zI_add]; congr 1; omega
  subst hy'
  exact ⟨n - x / 8 + 1, hout (n - x / 8) (x / 8) U (by omega) (Nat.le_refl _) hU (fun _ _ => rfl) (fun y u _ e1 e2 => ⟨u, e1, Nat.le_refl _, e2⟩) (fun k s t a b => absurd a (by omega))⟩
/-- what until is at the end -/
def UF (h : HS) (n : Nat) (U : Nat → Int32) : Prop := UI h n U ∧ ∀ t x g, t ≤ n → RX h t x g → ∃ u, U x = nI u ∧ g ≤ u ∧ u ≤ 180
theorem x_forward (hb : HB h n) (hr : rate = nI (hRate h)) (hz : size = nI n) (hS : SR h n sd sf sg) {U : Nat → Int32} {Q : (Nat → Int32) → Prop} (hQ : ∀ U', UF h n U' → (∀ y, y < 8 → 0 < y → U' y = -1) → Q U') : wp_X5_goForward rate size sd sf sg U Q := by
  have hn := hb.1
  subst hz
  unfold wp_X5_goForward
  refine x_fill (by decide) (fun f hf => ?_)
  have hloop : ∀ (d x : Nat) (U : Nat → Int32), x + d = 8 * (n + 1) → UI h n U → (∃ u, U 0 = nI u ∧ u ≤ 180) → (∀ y, y < 8 → 0 < y → U y = -1) → (∀ x0 u0, x0 < x → XV n x0 → U x0 = nI u0 → u0 ≤ 180 → ∀ k s t, x0 / 8 ≤ k → k < n → s < 2 → stt h (sgm h x0) k s = some t → ∃ u, U (ix k s t) = nI u ∧ u0 + gd h k s ≤ u ∧ u ≤ 180) → wp_X5_goForward_h17 rate (nI n) sd sf sg Q (d + 1) (nI x) U := by
    intro d
    induction d with
    | zero =>
      intro x U hx i1 i2 i3 i4
      rw [wp_X5_goForward_h17]
      dsimp only
      unfold wp_X6_end wp_X6_size
      refine x_standOf (s := 0) ?_
      refine bLE (ix n 0 0) x rfl rfl (by unfold ix; omega) (by omega) (fun _ => hQ U ⟨i1, ?_⟩ i3) (fun e => by unfold ix at e; omega)
      intro t
      induction t with
      | zero =>
        intro y g _ e
        obtain ⟨rfl, rfl⟩ := e
        obtain ⟨u, e1, e2⟩ := i2
        exact ⟨u, e1, by omega, e2⟩
      | succ t ih =>
        intro y g ht e
        rcases e with e | ⟨x0, g0, s, v, h1, h2, h3, h4, h5⟩
        · exact ih y g (by omega) e
        · obtain ⟨u0, e1, e2, e3⟩ := ih x0 g0 (by omega) h1
          obtain ⟨hv1, hv2⟩ := RX_x t x0 g0 h1
          have hxv : XV n x0 := by unfold XV at hv1 ⊢; omega
          obtain ⟨u, a, b, c⟩ := i4 x0 u0 (by unfold XV at hxv; omega) hxv e1 e3 t s v hv2 (by omega) h2 h3
          subst h4 h5
          exact ⟨u, a, by omega, c⟩
    | succ d ih =>
      intro x U hx i1 i2 i3 i4
      rw [wp_X5_goForward_h17]
      dsimp only
      unfold wp_X6_end wp_X6_size
      refine x_standOf (s := 0) ?_
      refine bLE (ix n 0 0) x rfl rfl (by unfold ix; omega) (by omega) (fun e => by unfold ix at e; omega) (fun _ => ?_)
      rw [nI_cl (by omega)]
      refine ⟨vin (by omega) (by decide), ?_⟩
      have hskip : U x = -1 → wp_X5_goForward_b42 rate (nI n) sd sf sg Q (fun y0 y1 => wp_X5_goForward_h17 rate (nI n) sd sf sg Q (d + 1) y0 y1) (nI x) U := by
        intro e
        unfold wp_X5_goForward_b42
        intro y hy
        have hy' : y = nI (x + 1) := by rw [hy]; exact nI_1 x
        subst hy'
        refine ih (x + 1) U (by omega) i1 i2 i3 (fun x0 u0 a b c e2 => ?_)
        by_cases e3 : x0 = x
        · subst e3
          rw [e] at c
          exact absurd c.symm (by rw [m1, zI_nI, zI_eq (by omega) (by omega) (by omega) (by omega)]; omega)
        · exact i4 x0 u0 (by omega) b c e2
      by_cases hxv : XV n x
      · rcases i1 x hxv with e | ⟨u0, e, hrx⟩
        · refine ⟨fun _ => hskip e, fun e2 => absurd (by rw [e]; decide) e2⟩
        · have hu0 : u0 ≤ 180 := by
            have := RX_g hb _ _ _ (show x / 8 ≤ n by unfold XV at hxv; omega) hrx
            have : x / 8 ≤ 10 := by unfold XV at hxv; omega
            omega
          rw [e]
          refine ⟨fun e2 => absurd e2 (nI_pos (by omega)), fun _ => ?_⟩
          refine x_spread hb hr rfl hS i1 hxv e hrx (fun U' a b c e4 => ?_)
          unfold wp_X5_goForward_b42
          intro y hy
          have hy' : y = nI (x + 1) := by rw [hy]; exact nI_1 x
          subst hy'
          refine ih (x + 1) U' (by omega) a ?_ (fun y h1 h2 => by rw [b y (by omega)]; exact i3 y h1 h2) (fun x0 v0 h1 h2 h3 h4 k s t h5 h6 h7 h8 => ?_)
          · obtain ⟨u, q1, q2⟩ := i2
            rw [b 0 (by omega)]; exact ⟨u, q1, q2⟩
          · by_cases e5 : x0 = x
            · subst e5
              rw [b x0 (by omega), e, nI_eq (by omega) (by omega)] at h3
              subst h3
              exact e4 k s t h5 h6 h7 h8
            · rw [b x0 (by omega)] at h3
              obtain ⟨u, q1, q2, q3⟩ := i4 x0 v0 (by omega) h2 h3 h4 k s t h5 h6 h7 h8
              have ht := stt_le h8
              obtain ⟨u', q4, q5, q6⟩ := c _ u (XV_ix h6 h7 (by omega)) q1 q3
              exact ⟨u', q4, by omega, q6⟩
      · have e := i3 x (by unfold XV at hxv; omega) (by unfold XV at hxv; omega)
        refine ⟨fun _ => hskip e, fun e2 => absurd (by rw [e]; decide) e2⟩
  refine ⟨8 * (n + 1) + 1, ?_⟩
  have e0 : (0 : Int32).toNatClampNeg = 0 := rfl
  rw [e0]
  refine hloop (8 * (n + 1)) 0 _ (by omega) ?_ ⟨0, upd_s _ _ _, by omega⟩ (fun y h1 h2 => by rw [upd_n (by omega)]; exact hf y (by omega)) (fun x0 u0 a => absurd a (Nat.not_lt_zero _))
  intro y hy
  by_cases e : y = 0
  · subst e; rw [upd_s]; exact Or.inr ⟨0, rfl, rfl, rfl⟩
  · rw [upd_n e]; exact Or.inl (hf y (by unfold XV at hy; omega))
end
