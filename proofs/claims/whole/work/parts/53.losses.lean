/-! ===== the class's losses ===== -/
theorem RS_blk {h : HS} : ∀ (t y g T : Nat), RS h t y g T → (T = 0 ∧ y = 0) ∨ ∃ k, k < t ∧ y / 8 = k + 1 ∧ 2 ^ k ≤ T ∧ T < 2 ^ (k + 1) ∧ XV t y
  | 0, y, g, T, e => Or.inl ⟨e.2.2, e.1⟩
  | t + 1, y, g, T, e => by
    rcases e with e | ⟨x0, g0, T0, s, u, h1, h2, h3, h4, h5, h6⟩
    · rcases RS_blk t y g T e with q | ⟨k, a, b, c, d, f⟩
      · exact Or.inl q
      · exact Or.inr ⟨k, by omega, b, c, d, by unfold XV at f ⊢; omega⟩
    · have hT0 := RS_lt t x0 g0 T0 h1
      have hu := stt_le h3
      have hp : 2 ^ (t + 1) = 2 ^ t + 2 ^ t := by rw [Nat.pow_succ]; omega
      refine Or.inr ⟨t, by omega, ?_, ?_, ?_, ?_⟩
      · rw [h4]; exact (ix_8 h2 (by omega)).1
      · rw [h6]; exact Nat.right_le_or
      · rw [h6]; exact Nat.or_lt_two_pow (by omega) (by omega)
      · rw [h4]; exact XV_ix (by omega) h2 (by omega)
theorem RS_step {h : HS} {n k T y g : Nat} (hk : k < n) (hT : T < 2 ^ k) : RS h n y g (T ||| 2 ^ k) ↔ ∃ y0 g0 s u, RS h n y0 g0 T ∧ s < 2 ∧ stt h (sgm h y0) k s = some u ∧ y = ix k s u ∧ g = g0 + gd h k s := by
  have hp : 2 ^ (k + 1) = 2 ^ k + 2 ^ k := by rw [Nat.pow_succ]; omega
  constructor
  · intro e
    rw [show n = (k + 1) + (n - (k + 1)) by omega] at e
    have e1 := RS_low (n - (k + 1)) y g _ e (Nat.or_lt_two_pow (by omega) (by omega))
    rcases e1 with e1 | ⟨x0, g0, T0, s, u, h1, h2, h3, h4, h5, h6⟩
    · have := RS_lt k y g _ e1
      have h2 : 2 ^ k ≤ T ||| 2 ^ k := Nat.right_le_or
      omega
    · have hT0 := RS_lt k x0 g0 T0 h1
      have : T0 = T := by
        apply Nat.eq_of_testBit_eq
        intro i
        by_cases q : i < k
        · have := congrArg (fun z => z.testBit i) h6
          simp only [Nat.testBit_or, Nat.testBit_two_pow, decide_eq_false (show ¬ k = i by omega), Bool.or_false] at this
          exact this.symm
        · rw [Nat.testBit_lt_two_pow (Nat.lt_of_lt_of_le hT0 (Nat.pow_le_pow_right (by decide) (by omega))), Nat.testBit_lt_two_pow (Nat.lt_of_lt_of_le hT (Nat.pow_le_pow_right (by decide) (by omega)))]
      subst this
      have h7 := RS_mono (n - k) k h1
      rw [show k + (n - k) = n by omega] at h7
      exact ⟨x0, g0, s, u, h7, h2, h3, h4, h5⟩
  · rintro ⟨y0, g0, s, u, h1, h2, h3, h4, h5⟩
    rw [show n = k + (n - k) by omega] at h1
    have h6 := RS_low (n - k) y0 g0 T h1 hT
    have h7 : RS h (k + 1) y g (T ||| 2 ^ k) := Or.inr ⟨y0, g0, T, s, u, h6, h2, h3, h4, h5, rfl⟩
    have h8 := RS_mono (n - (k + 1)) (k + 1) h7
    rw [show k + 1 + (n - (k + 1)) = n by omega] at h8
    exact h8
def KG (h : HS) (n : Nat) (kp : Nat → Int32) (T y : Nat) : Prop := (kp y = -1 ∧ ∀ g, ¬ RS h n y g T) ∨ ∃ u, kp y = nI u ∧ RS h n y u T ∧ ∀ g, RS h n y g T → g ≤ u
def cnd (h : HS) (n T k : Nat) (C : Nat → Nat → Prop) (y g : Nat) : Prop := ∃ y0 g0 s u, C y0 s ∧ RS h n y0 g0 T ∧ s < 2 ∧ stt h (sgm h y0) k s = some u ∧ y = ix k s u ∧ g = g0 + gd h k s
def KP (h : HS) (n T k : Nat) (C : Nat → Nat → Prop) (kp : Nat → Int32) (y : Nat) : Prop := (kp y = -1 ∧ ∀ g, ¬ cnd h n T k C y g) ∨ ∃ u, kp y = nI u ∧ cnd h n T k C y u ∧ ∀ g, cnd h n T k C y g → g ≤ u
/-- the greatest of the stands of a reading -/
def MX (kp : Nat → Int32) (k : Nat) (b : Int32) : Prop := (b = -1 ∧ ∀ y, y / 8 = k + 1 → kp y = -1) ∨ ∃ u y, b = nI u ∧ u ≤ 180 ∧ y / 8 = k + 1 ∧ kp y = nI u ∧ ∀ y' u', y' / 8 = k + 1 → u' ≤ 180 → kp y' = nI u' → u' ≤ u
theorem nI_n1 {u : Nat} (hu : u < 2147483648) : ¬ nI u = (-1 : Int32) := by
  rw [m1, zI_nI, zI_eq (by omega) (by omega) (by omega) (by omega)]; omega
section
variable {h : HS} {n : Nat} {rate : Int32} {sd sf sg : Nat → Int32}
theorem RS_180 (hb : HB h n) {y g T : Nat} (e : RS h n y g T) : g ≤ 180 := by
  have := RX_g hb n y g (Nat.le_refl n) (RS_rx n y g T e)
  have := hb.1
  omega
theorem x_keepBehind (hb : HB h n) (hr : rate = nI (hRate h)) (hS : SR h n sd sf sg) {T k x s u0 : Nat} (hk : k < n) (hs : s < 2) (hx : XV n x) (hxk : x < 8 * (k + 1)) {C : Nat → Nat → Prop} {kp : Nat → Int32} (hx0 : kp x = nI u0) (hrs : RS h n x u0 T) (hmax : ∀ g, RS h n x g T → g ≤ u0) (hT : T < 2 ^ k) (hkp : ∀ y, y / 8 = k + 1 → KP h n T k C kp y) {Q : Int32 → (Nat → Int32) → Prop}
    (hQ : ∀ (r : Int32) (kp' : Nat → Int32), (∀ y, y / 8 ≠ k + 1 → kp' y = kp y) → (∀ y, y / 8 = k + 1 → KP h n T k (fun y0 s0 => C y0 s0 ∨ (y0 = x ∧ s0 = s)) kp' y) → ((r = -1 ∧ kp' = kp) ∨ ∃ y u, y / 8 = k + 1 ∧ r = nI u ∧ kp' y = nI u ∧ ∀ y', y' ≠ y → kp' y' = kp y') → Q r kp') : wp_X2_keepBehind rate sd sf sg kp (nI x) (nI k) (nI s) Q := by
  have hn := hb.1
  have hu180 := RS_180 hb hrs
  have hgd := gd_le (s := s) hb hk
  have hcb : ∀ C' : Nat → Nat → Prop, ∀ y g, cnd h n T k C' y g → g ≤ 180 := by
    intro C' y g e
    obtain ⟨y0, g0, s0, u, -, e1, e2, e3, e4, e5⟩ := e
    exact RS_180 hb ((RS_step hk hT).mpr ⟨y0, g0, s0, u, e1, e2, e3, e4, e5⟩)
  unfold wp_X2_keepBehind
  refine x_following hb hr hS hx hk hs ?_
  cases hst : stt h (sgm h x) k s with
  | none =>
    have hlt := fol_none hst
    refine ⟨fun q => ?_, fun _ => hQ _ kp (fun _ _ => rfl) (fun y hy => ?_) (Or.inl ⟨rfl, rfl⟩)⟩
    · exact absurd q (Int32.not_le.mpr hlt)
    · have heq : ∀ g, cnd h n T k (fun y0 s0 => C y0 s0 ∨ (y0 = x ∧ s0 = s)) y g ↔ cnd h n T k C y g := by
        intro g
        constructor
        · rintro ⟨y0, g0, s0, u, c, e1, e2, e3, e4, e5⟩
          rcases c with c | ⟨rfl, rfl⟩
          · exact ⟨y0, g0, s0, u, c, e1, e2, e3, e4, e5⟩
          · rw [hst] at e3; cases e3
        · rintro ⟨y0, g0, s0, u, c, e⟩
          exact ⟨y0, g0, s0, u, Or.inl c, e⟩
      rcases hkp y hy with ⟨a, b⟩ | ⟨u, a, b, c⟩
      · exact Or.inl ⟨a, fun g q => b g ((heq g).mp q)⟩
      · exact Or.inr ⟨u, a, (heq u).mpr b, fun g q => c g ((heq g).mp q)⟩
  | some t =>
    have ht := stt_le hst
    have hixv : XV n (ix k s t) := XV_ix hk hs (by omega)
    have hixl : ix k s t < 88 := by unfold XV at hixv; omega
    have hix8 := (ix_8 (k := k) hs (show t < 4 by omega)).1
    have hxl : x < 88 := by unfold XV at hx; omega
    rw [fol_some hst]
    refine ⟨fun _ => ?_, fun q => absurd (nI_pos' (n := ix k s t) (by omega)) q⟩
    rw [nI_cl (by omega), nI_cl (by omega), hx0, (hS.2 k s t hk hs (by omega)).2.2, nI_add]
    have hv : vp_in (nI (ix k s t)) 88 := vin hixl (by decide)
    refine ⟨hv, vin hxl (by decide), hv, ?_⟩
    intro z hz
    refine ⟨hv, hv, ?_⟩
    rw [upd_s]
    have hc0 : cnd h n T k (fun y0 s0 => C y0 s0 ∨ (y0 = x ∧ s0 = s)) (ix k s t) (u0 + gd h k s) := ⟨x, u0, s, t, Or.inr ⟨rfl, rfl⟩, hrs, hs, hst, rfl, rfl⟩
    have hle := hcb _ _ _ hc0
    have hsplit : ∀ y g, cnd h n T k (fun y0 s0 => C y0 s0 ∨ (y0 = x ∧ s0 = s)) y g → cnd h n T k C y g ∨ (y = ix k s t ∧ g ≤ u0 + gd h k s) := by
      rintro y g ⟨y0, g0, s0, u, c, e1, e2, e3, e4, e5⟩
      rcases c with c | ⟨rfl, rfl⟩
      · exact Or.inl ⟨y0, g0, s0, u, c, e1, e2, e3, e4, e5⟩
      · rw [hst] at e3
        cases e3
        have := hmax g0 e1
        exact Or.inr ⟨e4, by omega⟩
    have hup : ∀ y g, cnd h n T k C y g → cnd h n T k (fun y0 s0 => C y0 s0 ∨ (y0 = x ∧ s0 = s)) y g := by
      rintro y g ⟨y0, g0, s0, u, c, e⟩
      exact ⟨y0, g0, s0, u, Or.inl c, e⟩
    have hzw : ∃ w, z = nI w ∧ w ≤ 180 ∧ cnd h n T k (fun y0 s0 => C y0 s0 ∨ (y0 = x ∧ s0 = s)) (ix k s t) w ∧ ∀ g, cnd h n T k (fun y0 s0 => C y0 s0 ∨ (y0 = x ∧ s0 = s)) (ix k s t) g → g ≤ w := by
      rcases hkp _ hix8 with ⟨a, b⟩ | ⟨u, a, b, c⟩
      · rw [a, if_pos (by rw [m1, zI_nI, zI_lt (by omega) (by omega) (by omega) (by omega)]; omega)] at hz
        refine ⟨_, hz, hle, hc0, fun g q => ?_⟩
        rcases hsplit _ _ q with q | q
        · exact absurd q (b g)
        · exact q.2
      · have hu := hcb _ _ _ b
        rw [a] at hz
        by_cases q0 : u < u0 + gd h k s
        · rw [if_pos ((nI_ltI (by omega) (by omega)).mpr q0)] at hz
          refine ⟨_, hz, hle, hc0, fun g q => ?_⟩
          rcases hsplit _ _ q with q | q
          · have := c g q; omega
          · exact q.2
        · rw [if_neg (fun q => q0 ((nI_ltI (by omega) (by omega)).mp q))] at hz
          refine ⟨_, hz, hu, hup _ _ b, fun g q => ?_⟩
          rcases hsplit _ _ q with q | q
          · exact c g q
          · omega
    obtain ⟨w, ew, w1, w2, w3⟩ := hzw
    subst ew
    refine hQ _ _ (fun y hy => upd_n (fun e => hy (by rw [e]; exact hix8))) (fun y hy => ?_) (Or.inr ⟨ix k s t, w, hix8, rfl, upd_s _ _ _, fun y' hy' => upd_n hy'⟩)
    by_cases e : y = ix k s t
    · subst e
      exact Or.inr ⟨w, upd_s _ _ _, w2, w3⟩
    · rcases hkp y hy with ⟨a, b⟩ | ⟨u, a, b, c⟩
      · refine Or.inl ⟨by rw [upd_n e]; exact a, fun g q => ?_⟩
        rcases hsplit _ _ q with q | q
        · exact b g q
        · exact e q.1
      · refine Or.inr ⟨u, by rw [upd_n e]; exact a, hup _ _ b, fun g q => ?_⟩
        rcases hsplit _ _ q with q | q
        · exact c g q
        · exact absurd q.1 e
/-- keepLast: from the stands of the one before (f is the first of these) to those of reading k -/
theorem x_keepLast (hb : HB h n) (hr : rate = nI (hRate h)) (hS : SR h n sd sf sg) {T k f : Nat} (hk : k < n) (hT : T < 2 ^ k) (hf8 : f % 8 = 0) (hfk : f < 8 * (k + 1)) {kp : Nat → Int32} (hsrc : ∀ y, y / 8 = f / 8 → (XV n y ∧ KG h n kp T y) ∨ (kp y = -1 ∧ ∀ g, ¬ RS h n y g T)) (hblk : ∀ y g, RS h n y g T → y / 8 = f / 8) {v1 : Int32} (hv1 : ∀ Q : Int32 → Prop, Q (nI f) → wp_X6_standOf v1 (0 : Int32) Q) {Q : Int32 → (Nat → Int32) → Prop}
    (hQ : ∀ (b : Int32) (kp' : Nat → Int32), (∀ y, y / 8 ≠ k + 1 → kp' y = kp y) → (∀ y, y / 8 = k + 1 → KG h n kp' (T ||| 2 ^ k) y) → MX kp' k b → Q b kp') : wp_X2_keepLast rate sd sf sg kp v1 (nI k) Q := by
  have hn := hb.1
  have hixk : ix k 0 0 = 8 * (k + 1) := by unfold ix; omega
  have hcb : ∀ C' : Nat → Nat → Prop, ∀ y g, cnd h n T k C' y g → g ≤ 180 := by
    intro C' y g e
    obtain ⟨y0, g0, s0, u, -, e1, e2, e3, e4, e5⟩ := e
    exact RS_180 hb ((RS_step hk hT).mpr ⟨y0, g0, s0, u, e1, e2, e3, e4, e5⟩)
  -- the stands are gone through
  have hloop : ∀ (d s : Nat) (kp' : Nat → Int32) (b : Int32), s + d = f + 8 → f ≤ s → (∀ y, y / 8 ≠ k + 1 → kp' y = kp y) → (∀ y, y / 8 = k + 1 → KP h n T k (fun y0 _ => y0 < s) kp' y) → MX kp' k b → wp_X2_keepLast_h46 rate sd sf sg Q (d + 1) (nI k) (nI f) b (nI s) kp' := by
    intro d
    induction d with
    | zero =>
      intro s kp' b hs hfs i1 i2 i3
      rw [wp_X2_keepLast_h46]
      dsimp only
      rw [nI_addL]
      refine bLE (f + 8) s rfl rfl (by omega) (by omega) (fun _ => hQ b kp' i1 (fun y hy => ?_) i3) (fun q => by omega)
      have heq : ∀ g, cnd h n T k (fun y0 _ => y0 < s) y g ↔ RS h n y g (T ||| 2 ^ k) := by
        intro g
        rw [RS_step hk hT]
        constructor
        · rintro ⟨y0, g0, s0, u, -, e⟩
          exact ⟨y0, g0, s0, u, e⟩
        · rintro ⟨y0, g0, s0, u, e1, e⟩
          exact ⟨y0, g0, s0, u, by have := hblk y0 g0 e1; omega, e1, e⟩
      rcases i2 y hy with ⟨a, c⟩ | ⟨u, a, c, d⟩
      · exact Or.inl ⟨a, fun g q => c g ((heq g).mpr q)⟩
      · exact Or.inr ⟨u, a, (heq u).mp c, fun g q => d g ((heq g).mpr q)⟩
    | succ d ih =>
      intro s kp' b hs hfs i1 i2 i3
      have hs8 : s / 8 = f / 8 := by omega
      have hsl : s < 88 := by omega
      have hsne : s / 8 ≠ k + 1 := by omega
      rw [wp_X2_keepLast_h46]
      dsimp only
      rw [nI_addL]
      refine bLE (f + 8) s rfl rfl (by omega) (by omega) (fun q => by omega) (fun _ => ?_)
      rw [nI_cl (by omega), i1 s hsne]
      refine ⟨vin hsl (by decide), ?_⟩
      have hnext : ∀ (kp2 : Nat → Int32) (b2 : Int32), (∀ y, y / 8 ≠ k + 1 → kp2 y = kp y) → (∀ y, y / 8 = k + 1 → KP h n T k (fun y0 _ => y0 < s + 1) kp2 y) → MX kp2 k b2 → wp_X2_keepLast_b92 rate sd sf sg Q (fun y0 y1 y2 y3 y4 => wp_X2_keepLast_h46 rate sd sf sg Q (d + 1) y0 y1 y2 y3 y4) (nI k) (nI f) b2 (nI s) kp2 := by
        intro kp2 b2 a c e
        unfold wp_X2_keepLast_b92
        intro y hy
        have hy' : y = nI (s + 1) := by rw [hy]; exact nI_1 s
        subst hy'
        exact ih (s + 1) kp2 b2 (by omega) (by omega) a c e
      have hskip : (∀ g, ¬ RS h n s g T) → wp_X2_keepLast_b92 rate sd sf sg Q (fun y0 y1 y2 y3 y4 => wp_X2_keepLast_h46 rate sd sf sg Q (d + 1) y0 y1 y2 y3 y4) (nI k) (nI f) b (nI s) kp' := by
        intro hno
        refine hnext kp' b i1 (fun y hy => ?_) i3
        have heq : ∀ g, cnd h n T k (fun y0 _ => y0 < s + 1) y g ↔ cnd h n T k (fun y0 _ => y0 < s) y g := by
          intro g
          constructor
          · rintro ⟨y0, g0, s0, u, c, e1, e⟩
            by_cases q : y0 = s
            · subst q; exact absurd e1 (hno g0)
            · exact ⟨y0, g0, s0, u, (by omega : y0 < s), e1, e⟩
          · rintro ⟨y0, g0, s0, u, c, e1, e⟩
            exact ⟨y0, g0, s0, u, (Nat.lt_succ_of_lt c : y0 < s + 1), e1, e⟩
        rcases i2 y hy with ⟨a, c⟩ | ⟨u, a, c, d⟩
        · exact Or.inl ⟨a, fun g q => c g ((heq g).mp q)⟩
        · exact Or.inr ⟨u, a, (heq u).mpr c, fun g q => d g ((heq g).mp q)⟩
      have hmain : ∀ u0, XV n s → kp s = nI u0 → RS h n s u0 T → (∀ g, RS h n s g T → g ≤ u0) → wp_X2_keepBehind rate sd sf sg kp' (nI s) (nI k) (0 : Int32) (fun r73_3 l_kept_73_2 => wp_X2_keepBehind rate sd sf sg l_kept_73_2 (nI s) (nI k) (1 : Int32) (fun r81_5 l_kept_81_4 => ∀ x84_6 : Int32, x84_6 = (if r73_3 < r81_5 then r81_5 else r73_3) → ∀ x87_7 : Int32, x87_7 = (if b < x84_6 then x84_6 else b) → wp_X2_keepLast_b92 rate sd sf sg Q (fun y0 y1 y2 y3 y4 => wp_X2_keepLast_h46 rate sd sf sg Q (d + 1) y0 y1 y2 y3 y4) (nI k) (nI f) x87_7 (nI s) l_kept_81_4)) := by
        intro u0 hsv e1 e2 e3
        refine x_keepBehind hb hr hS hk (s := 0) (by decide) hsv (by omega) (by rw [i1 s hsne]; exact e1) e2 e3 hT i2 (fun r1 kp1 a1 a2 a3 => ?_)
        refine x_keepBehind hb hr hS hk (s := 1) (by decide) hsv (by omega) (by rw [a1 s hsne, i1 s hsne]; exact e1) e2 e3 hT a2 (fun r2 kp2 b1 b2 b3 => ?_)
        intro z1 hz1 z2 hz2
        have hkp2 : ∀ y, y / 8 = k + 1 → KP h n T k (fun y0 _ => y0 < s + 1) kp2 y := by
          intro y hy
          have heq : ∀ g, cnd h n T k (fun y0 _ => y0 < s + 1) y g ↔ cnd h n T k (fun y0 s0 => (y0 < s ∨ (y0 = s ∧ s0 = 0)) ∨ (y0 = s ∧ s0 = 1)) y g := by
            intro g
            constructor
            · rintro ⟨y0, g0, s0, u, c, e1, e2, e⟩
              refine ⟨y0, g0, s0, u, ?_, e1, e2, e⟩
              have c' : y0 < s + 1 := c
              show (y0 < s ∨ (y0 = s ∧ s0 = 0)) ∨ (y0 = s ∧ s0 = 1)
              omega
            · rintro ⟨y0, g0, s0, u, c, e1, e2, e⟩
              refine ⟨y0, g0, s0, u, ?_, e1, e2, e⟩
              have c' : (y0 < s ∨ (y0 = s ∧ s0 = 0)) ∨ (y0 = s ∧ s0 = 1) := c
              show y0 < s + 1
              omega
          rcases b2 y hy with ⟨a, c⟩ | ⟨u, a, c, d⟩
          · exact Or.inl ⟨a, fun g q => c g ((heq g).mp q)⟩
          · exact Or.inr ⟨u, a, (heq u).mpr c, fun g q => d g ((heq g).mp q)⟩
        refine hnext kp2 z2 (fun y hy => by rw [b1 y hy, a1 y hy, i1 y hy]) hkp2 ?_
        -- z2 is the greatest
        have hval : ∀ (C' : Nat → Nat → Prop) (kq : Nat → Int32) y, KP h n T k C' kq y → kq y = -1 ∨ ∃ u, kq y = nI u ∧ u ≤ 180 := by
          intro C' kq y q
          rcases q with ⟨a, -⟩ | ⟨u, a, c, -⟩
          · exact Or.inl a
          · exact Or.inr ⟨u, a, hcb _ _ _ c⟩
        -- values only grow
        have hgrow1 : ∀ y u, y / 8 = k + 1 → u ≤ 180 → kp' y = nI u → ∃ u', kp1 y = nI u' ∧ u ≤ u' ∧ u' ≤ 180 := by
          intro y u hy hu e
          rcases i2 y hy with ⟨a, -⟩ | ⟨v, a, c, -⟩
          · rw [a] at e; exact absurd e.symm (nI_n1 (by omega))
          · have hv := hcb _ _ _ c
            rw [a, nI_eq (by omega) (by omega)] at e
            subst e
            have c2 : cnd h n T k (fun y0 s0 => y0 < s ∨ (y0 = s ∧ s0 = 0)) y v := by
              obtain ⟨y0, g0, s0, w, c, e⟩ := c
              exact ⟨y0, g0, s0, w, Or.inl c, e⟩
            rcases a2 y hy with ⟨-, q⟩ | ⟨w, q1, q2, q3⟩
            · exact absurd c2 (q v)
            · exact ⟨w, q1, q3 v c2, hcb _ _ _ q2⟩
        have hgrow2 : ∀ y u, y / 8 = k + 1 → u ≤ 180 → kp1 y = nI u → ∃ u', kp2 y = nI u' ∧ u ≤ u' ∧ u' ≤ 180 := by
          intro y u hy hu e
          rcases a2 y hy with ⟨a, -⟩ | ⟨v, a, c, -⟩
          · rw [a] at e; exact absurd e.symm (nI_n1 (by omega))
          · have hv := hcb _ _ _ c
            rw [a, nI_eq (by omega) (by omega)] at e
            subst e
            have c2 : cnd h n T k (fun y0 s0 => (y0 < s ∨ (y0 = s ∧ s0 = 0)) ∨ (y0 = s ∧ s0 = 1)) y v := by
              obtain ⟨y0, g0, s0, w, c, e⟩ := c
              exact ⟨y0, g0, s0, w, Or.inl c, e⟩
            rcases b2 y hy with ⟨-, q⟩ | ⟨w, q1, q2, q3⟩
            · exact absurd c2 (q v)
            · exact ⟨w, q1, q3 v c2, hcb _ _ _ q2⟩
        -- Int32 maxima of -1 or small numbers
        have hmx : ∀ (p q : Int32) (z : Int32), z = (if p < q then q else p) → ∀ (a b : Int), p = zI a → q = zI b → -1 ≤ a → a ≤ 180 → -1 ≤ b → b ≤ 180 → z = zI (max a b) := by
          intro p q z hz a b ha hb2 h1 h2 h3 h4
          rw [hz, ha, hb2]
          by_cases q0 : a < b
          · rw [if_pos ((zI_lt (by omega) (by omega) (by omega) (by omega)).mpr q0)]; congr 1; omega
          · rw [if_neg (fun q1 => q0 ((zI_lt (by omega) (by omega) (by omega) (by omega)).mp q1))]; congr 1; omega
        have hr1 : ∃ a : Int, r1 = zI a ∧ -1 ≤ a ∧ a ≤ 180 := by
          rcases a3 with ⟨q, -⟩ | ⟨y, u, q1, q2, q3, -⟩
          · exact ⟨-1, q.trans m1, by omega, by omega⟩
          · rcases hval _ _ y (a2 y q1) with q | ⟨v, q, q4⟩
            · rw [q] at q3
              exact ⟨-1, by rw [q2, ← q3]; rfl, by omega, by omega⟩
            · exact ⟨v, by rw [q2, ← q3, q, zI_nI], by omega, by omega⟩
        have hr2 : ∃ a : Int, r2 = zI a ∧ -1 ≤ a ∧ a ≤ 180 := by
          rcases b3 with ⟨q, -⟩ | ⟨y, u, q1, q2, q3, -⟩
          · exact ⟨-1, q.trans m1, by omega, by omega⟩
          · rcases hval _ _ y (b2 y q1) with q | ⟨v, q, q4⟩
            · rw [q] at q3
              exact ⟨-1, by rw [q2, ← q3]; rfl, by omega, by omega⟩
            · exact ⟨v, by rw [q2, ← q3, q, zI_nI], by omega, by omega⟩
        have hbz : ∃ a : Int, b = zI a ∧ -1 ≤ a ∧ a ≤ 180 := by
          rcases i3 with ⟨q, -⟩ | ⟨u, y, q, q2, -⟩
          · exact ⟨-1, q.trans m1, by omega, by omega⟩
          · exact ⟨u, by rw [q, zI_nI], by omega, by omega⟩
        obtain ⟨α1, ha1, ha1', ha1''⟩ := hr1
        obtain ⟨α2, ha2, ha2', ha2''⟩ := hr2
        obtain ⟨β, hβ, hβ', hβ''⟩ := hbz
        have hz1' := hmx _ _ _ hz1 α1 α2 ha1 ha2 ha1' ha1'' ha2' ha2''
        have hz2' := hmx _ _ _ hz2 β (max α1 α2) hβ hz1' hβ' hβ'' (by omega) (by omega)
        -- each value of kp2 is at most the maximum
        have hupper : ∀ y u, y / 8 = k + 1 → u ≤ 180 → kp2 y = nI u → (u : Int) ≤ max β (max α1 α2) := by
          intro y u hy hu e
          have h2 : kp1 y = nI u ∨ (u : Int) ≤ α2 := by
            rcases b3 with ⟨-, q⟩ | ⟨y', u', q1, q2, q3, q4⟩
            · left; rw [← q]; exact e
            · by_cases c : y = y'
              · right
                subst c
                rw [e] at q3
                rw [← q3, zI_nI] at q2
                rw [ha2, zI_eq (by omega) (by omega) (by omega) (by omega)] at q2
                omega
              · left; rw [← q4 y c]; exact e
          rcases h2 with h2 | h2
          · have h3 : kp' y = nI u ∨ (u : Int) ≤ α1 := by
              rcases a3 with ⟨-, q⟩ | ⟨y', u', q1, q2, q3, q4⟩
              · left; rw [← q]; exact h2
              · by_cases c : y = y'
                · right
                  subst c
                  rw [h2] at q3
                  rw [← q3, zI_nI] at q2
                  rw [ha1, zI_eq (by omega) (by omega) (by omega) (by omega)] at q2
                  omega
                · left; rw [← q4 y c]; exact h2
            rcases h3 with h3 | h3
            · have h4 : (u : Int) ≤ β := by
                rcases i3 with ⟨-, q⟩ | ⟨v, y', q, q2, q3, q4, q5⟩
                · rw [q y hy] at h3; exact absurd h3.symm (nI_n1 (by omega))
                · have := q5 y u hy hu h3
                  rw [hβ, zI_nI, zI_eq (by omega) (by omega) (by omega) (by omega)] at q
                  omega
              omega
            · omega
          · omega
        -- the maximum is there, if it isn't -1
        have hthere : 0 ≤ max β (max α1 α2) → ∃ y u, y / 8 = k + 1 ∧ u ≤ 180 ∧ kp2 y = nI u ∧ max β (max α1 α2) ≤ (u : Int) := by
          intro hm
          have hc : (0 ≤ α2 ∧ max β (max α1 α2) = α2) ∨ (0 ≤ α1 ∧ max β (max α1 α2) = α1) ∨ (0 ≤ β ∧ max β (max α1 α2) = β) := by omega
          rcases hc with ⟨c1, c2⟩ | ⟨c1, c2⟩ | ⟨c1, c2⟩
          · rcases b3 with ⟨q, -⟩ | ⟨y, u, q1, q2, q3, -⟩
            · rw [ha2, m1, zI_eq (by omega) (by omega) (by omega) (by omega)] at q; omega
            · rcases hval _ _ y (b2 y q1) with q | ⟨v, q, q4⟩
              · rw [q] at q3
                rw [ha2, ← q3, m1, zI_eq (by omega) (by omega) (by omega) (by omega)] at q2; omega
              · refine ⟨y, v, q1, q4, q, ?_⟩
                rw [q] at q3
                rw [ha2, ← q3, zI_nI, zI_eq (by omega) (by omega) (by omega) (by omega)] at q2
                omega
          · rcases a3 with ⟨q, -⟩ | ⟨y, u, q1, q2, q3, -⟩
            · rw [ha1, m1, zI_eq (by omega) (by omega) (by omega) (by omega)] at q; omega
            · rcases hval _ _ y (a2 y q1) with q | ⟨v, q, q4⟩
              · rw [q] at q3
                rw [ha1, ← q3, m1, zI_eq (by omega) (by omega) (by omega) (by omega)] at q2; omega
              · obtain ⟨v', g1, g2, g3⟩ := hgrow2 y v q1 q4 q
                refine ⟨y, v', q1, g3, g1, ?_⟩
                rw [q] at q3
                rw [ha1, ← q3, zI_nI, zI_eq (by omega) (by omega) (by omega) (by omega)] at q2
                omega
          · rcases i3 with ⟨q, -⟩ | ⟨v, y, q, q2, q3, q4, -⟩
            · rw [hβ, m1, zI_eq (by omega) (by omega) (by omega) (by omega)] at q; omega
            · obtain ⟨v1, g1, g2, g3⟩ := hgrow1 y v q3 q2 q4
              obtain ⟨v2, g4, g5, g6⟩ := hgrow2 y v1 q3 g3 g1
              refine ⟨y, v2, q3, g6, g4, ?_⟩
              rw [hβ, zI_nI, zI_eq (by omega) (by omega) (by omega) (by omega)] at q
              omega
        rcases Int.lt_or_le (max β (max α1 α2)) 0 with q | q
        · refine Or.inl ⟨by rw [hz2', m1]; congr 1; omega, fun y hy => ?_⟩
          rcases hval _ _ y (hkp2 y hy) with c | ⟨u, c, cu⟩
          · exact c
          · have := hupper y u hy cu c; omega
        · obtain ⟨y, u, q1, q2, q3, q4⟩ := hthere q
          have := hupper y u q1 q2 q3
          refine Or.inr ⟨u, y, by rw [hz2', zI_nI]; congr 1; omega, q2, q1, q3, fun y' u' c1 c2 c3 => ?_⟩
          have := hupper y' u' c1 c2 c3
          omega
      rcases hsrc s hs8 with ⟨hsv, hkg⟩ | ⟨e1, hno⟩
      · rcases hkg with ⟨e1, hno⟩ | ⟨u0, e1, e2, e3⟩
        · rw [e1]
          exact ⟨fun _ => hskip hno, fun q => absurd (by decide) q⟩
        · have := RS_180 hb e2
          rw [e1]
          exact ⟨fun q => absurd q (nI_pos (by omega)), fun _ => hmain u0 hsv e1 e2 e3⟩
      · rw [e1]
        exact ⟨fun _ => hskip hno, fun q => absurd (by decide) q⟩
  -- the stands of k are emptied first
  have hclr : ∀ (d i : Nat) (kp' : Nat → Int32), i + d = 8 → (∀ y, y / 8 ≠ k + 1 → kp' y = kp y) → (∀ j, j < i → kp' (8 * (k + 1) + j) = -1) → wp_X2_keepLast_h9 rate sd sf sg Q (d + 1) v1 (nI k) (nI (8 * (k + 1))) (nI i) kp' := by
    intro d
    induction d with
    | zero =>
      intro i kp' hi i1 i2
      have : i = 8 := by omega
      subst this
      rw [wp_X2_keepLast_h9]
      dsimp only
      refine ⟨fun _ => hv1 _ ⟨9, hloop 8 f kp' (-1) (by omega) (Nat.le_refl f) i1 (fun y hy => Or.inl ⟨?_, ?_⟩) (Or.inl ⟨rfl, fun y hy => ?_⟩)⟩, fun q => absurd (show (8 : Int32) ≤ nI 8 by decide) q⟩
      · have := i2 (y - 8 * (k + 1)) (by omega)
        rw [show 8 * (k + 1) + (y - 8 * (k + 1)) = y by omega] at this
        exact this
      · rintro g ⟨y0, g0, s0, u, c, e1, -⟩
        have c' : y0 < f := c
        have := hblk y0 g0 e1
        omega
      · have := i2 (y - 8 * (k + 1)) (by omega)
        rw [show 8 * (k + 1) + (y - 8 * (k + 1)) = y by omega] at this
        exact this
    | succ d ih =>
      intro i kp' hi i1 i2
      rw [wp_X2_keepLast_h9]
      dsimp only
      refine bLE 8 i rfl rfl (by decide) (by omega) (fun q => by omega) (fun _ => ?_)
      rw [nI_add, nI_cl (by omega)]
      refine ⟨vin (by omega) (by decide), ?_⟩
      intro y hy
      have hy' : y = nI (i + 1) := by rw [hy]; exact nI_1 i
      subst hy'
      refine ih (i + 1) _ (by omega) (fun y hy => by rw [upd_n (by omega)]; exact i1 y hy) (fun j hj => ?_)
      by_cases q : j = i
      · subst q; exact upd_s _ _ _
      · rw [upd_n (by omega)]; exact i2 j (by omega)
  unfold wp_X2_keepLast
  refine x_standOf (s := 0) ?_
  rw [hixk]
  exact ⟨9, hclr 8 0 kp rfl (fun _ _ => rfl) (fun j hj => absurd hj (Nat.not_lt_zero j))⟩
end
