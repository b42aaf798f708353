/-! ===== THE MATHEMATICS: numbers ===== -/
theorem nI_addL (a n : Nat) : nI a + (OfNat.ofNat n : Int32) = nI (a + (OfNat.ofNat n : Nat)) := nI_add a n
theorem nI_mulL (a n : Nat) : nI a * (OfNat.ofNat n : Int32) = nI (a * (OfNat.ofNat n : Nat)) := pk_mul a n
theorem nI_Lmul (a n : Nat) : (OfNat.ofNat n : Int32) * nI a = nI ((OfNat.ofNat n : Nat) * a) := pk_mul n a
theorem nI_subN {a b : Nat} (h : b ≤ a) : nI a - nI b = nI (a - b) := pk_sub h
theorem nI_subL {a n : Nat} (h : (OfNat.ofNat n : Nat) ≤ a) : nI a - (OfNat.ofNat n : Int32) = nI (a - (OfNat.ofNat n : Nat)) := pk_sub h
theorem nI_divL {a d : Nat} (ha : a < 2147483648) (h0 : 0 < (OfNat.ofNat d : Nat)) (hd : (OfNat.ofNat d : Nat) < 2147483648) : nI a / (OfNat.ofNat d : Int32) = nI (a / (OfNat.ofNat d : Nat)) := pk_div ha h0 hd
theorem nI_cl {n : Nat} (h : n < 2147483648) : (nI n).toNatClampNeg = n := nI_clamp h
theorem vin {n N : Nat} (h : n < N) (hN : N < 2147483648) : vp_in (nI n) N := vp_in_nI h hN
theorem bLE {A B : Prop} {x y : Int32} (a b : Nat) (hx : x = nI a) (hy : y = nI b) (ha : a < 2147483648) (hb : b < 2147483648) (h1 : a ≤ b → A) (h2 : b < a → B) : (x ≤ y → A) ∧ (¬ x ≤ y → B) := by
  subst hx; subst hy
  exact ⟨fun h => h1 ((nI_leI ha hb).mp h), fun h => h2 (by rcases Nat.lt_or_ge b a with q | q; exact q; exact absurd ((nI_leI ha hb).mpr q) h)⟩
theorem bLT {A B : Prop} {x y : Int32} (a b : Nat) (hx : x = nI a) (hy : y = nI b) (ha : a < 2147483648) (hb : b < 2147483648) (h1 : a < b → A) (h2 : b ≤ a → B) : (x < y → A) ∧ (¬ x < y → B) := by
  subst hx; subst hy
  exact ⟨fun h => h1 ((nI_ltI ha hb).mp h), fun h => h2 (by rcases Nat.lt_or_ge a b with q | q; exact absurd ((nI_ltI ha hb).mpr q) h; exact q)⟩
theorem bEQ {A B : Prop} {x y : Int32} (a b : Nat) (hx : x = nI a) (hy : y = nI b) (ha : a < 2147483648) (hb : b < 2147483648) (h1 : a = b → A) (h2 : a ≠ b → B) : (x = y → A) ∧ (¬ x = y → B) := by
  subst hx; subst hy
  exact ⟨fun h => h1 ((nI_eq ha hb).mp h), fun h => h2 (fun e => h ((nI_eq ha hb).mpr e))⟩
theorem bNE {A B : Prop} {x y : Int32} (a b : Nat) (hx : x = nI a) (hy : y = nI b) (ha : a < 2147483648) (hb : b < 2147483648) (h1 : a ≠ b → A) (h2 : a = b → B) : (¬ x = y → A) ∧ (x = y → B) := by
  subst hx; subst hy
  exact ⟨fun h => h1 (fun e => h ((nI_eq ha hb).mpr e)), fun h => h2 ((nI_eq ha hb).mp h)⟩
/-- whole numbers with sign -/
def zI (z : Int) : Int32 := Int32.ofInt z
theorem zI_nI (n : Nat) : nI n = zI n := by unfold nI zI; exact (Int32.ofInt_eq_ofNat).symm
theorem zI_toInt {z : Int} (h1 : -2147483648 ≤ z) (h2 : z < 2147483648) : (zI z).toInt = z := by
  unfold zI
  rw [Int32.toInt_ofInt]
  have hs : ((Int32.size : Nat) : Int) = 4294967296 := rfl
  apply Int.bmod_eq_of_le <;> rw [hs] <;> omega
theorem zI_add (a b : Int) : zI a + zI b = zI (a + b) := (Int32.ofInt_add a b).symm
theorem zI_sub (a b : Int) : zI a - zI b = zI (a - b) := (Int32.ofInt_sub a b).symm
theorem zI_mul (a b : Int) : zI a * zI b = zI (a * b) := (Int32.ofInt_mul a b).symm
theorem zI_lt {a b : Int} (ha : -2147483648 ≤ a) (ha' : a < 2147483648) (hb : -2147483648 ≤ b) (hb' : b < 2147483648) : zI a < zI b ↔ a < b := by
  rw [Int32.lt_iff_toInt_lt, zI_toInt ha ha', zI_toInt hb hb']
theorem zI_le {a b : Int} (ha : -2147483648 ≤ a) (ha' : a < 2147483648) (hb : -2147483648 ≤ b) (hb' : b < 2147483648) : zI a ≤ zI b ↔ a ≤ b := by
  rw [Int32.le_iff_toInt_le, zI_toInt ha ha', zI_toInt hb hb']
theorem zI_eq {a b : Int} (ha : -2147483648 ≤ a) (ha' : a < 2147483648) (hb : -2147483648 ≤ b) (hb' : b < 2147483648) : zI a = zI b ↔ a = b := by
  rw [← Int32.toInt_inj, zI_toInt ha ha', zI_toInt hb hb']
theorem cLT {A B : Prop} {x y : Int32} (a b : Int) (hx : x = zI a) (hy : y = zI b) (ha : -2147483648 ≤ a ∧ a < 2147483648) (hb : -2147483648 ≤ b ∧ b < 2147483648) (h1 : a < b → A) (h2 : b ≤ a → B) : (x < y → A) ∧ (¬ x < y → B) := by
  subst hx; subst hy
  exact ⟨fun h => h1 ((zI_lt ha.1 ha.2 hb.1 hb.2).mp h), fun h => h2 (by rcases Int.lt_or_le a b with q | q; exact absurd ((zI_lt ha.1 ha.2 hb.1 hb.2).mpr q) h; exact q)⟩
theorem cLE {A B : Prop} {x y : Int32} (a b : Int) (hx : x = zI a) (hy : y = zI b) (ha : -2147483648 ≤ a ∧ a < 2147483648) (hb : -2147483648 ≤ b ∧ b < 2147483648) (h1 : a ≤ b → A) (h2 : b < a → B) : (x ≤ y → A) ∧ (¬ x ≤ y → B) := by
  subst hx; subst hy
  exact ⟨fun h => h1 ((zI_le ha.1 ha.2 hb.1 hb.2).mp h), fun h => h2 (by rcases Int.lt_or_le b a with q | q; exact q; exact absurd ((zI_le ha.1 ha.2 hb.1 hb.2).mpr q) h)⟩
theorem cEQ {A B : Prop} {x y : Int32} (a b : Int) (hx : x = zI a) (hy : y = zI b) (ha : -2147483648 ≤ a ∧ a < 2147483648) (hb : -2147483648 ≤ b ∧ b < 2147483648) (h1 : a = b → A) (h2 : a ≠ b → B) : (x = y → A) ∧ (¬ x = y → B) := by
  subst hx; subst hy
  exact ⟨fun h => h1 ((zI_eq ha.1 ha.2 hb.1 hb.2).mp h), fun h => h2 (fun e => h ((zI_eq ha.1 ha.2 hb.1 hb.2).mpr e))⟩
theorem cNE {A B : Prop} {x y : Int32} (a b : Int) (hx : x = zI a) (hy : y = zI b) (ha : -2147483648 ≤ a ∧ a < 2147483648) (hb : -2147483648 ≤ b ∧ b < 2147483648) (h1 : a ≠ b → A) (h2 : a = b → B) : (¬ x = y → A) ∧ (x = y → B) := by
  subst hx; subst hy
  exact ⟨fun h => h1 (fun e => h ((zI_eq ha.1 ha.2 hb.1 hb.2).mpr e)), fun h => h2 ((zI_eq ha.1 ha.2 hb.1 hb.2).mp h)⟩
theorem upd_s (f : Nat → Int32) (k : Nat) (x : Int32) : upd f k x k = x := pk_us
theorem upd_n {f : Nat → Int32} {k j : Nat} {x : Int32} (h : j ≠ k) : upd f k x j = f j := pk_un h
/-! ===== sums of ways: best, how many, in each, in any ===== -/
abbrev AG : Type := Nat × Nat × Nat × Nat
def ac (x y : AG) : AG := if x.1 < y.1 then y else if y.1 < x.1 then x else (x.1, x.2.1 + y.2.1, x.2.2.1 &&& y.2.2.1, x.2.2.2 ||| y.2.2.2)
theorem ac_comm (x y : AG) : ac x y = ac y x := by
  unfold ac
  by_cases h1 : x.1 < y.1
  · rw [if_pos h1, if_neg (by omega), if_pos h1]
  · by_cases h2 : y.1 < x.1
    · rw [if_neg h1, if_pos h2, if_pos h2]
    · rw [if_neg h1, if_neg h2, if_neg h2, if_neg h1, Nat.add_comm, Nat.and_comm, Nat.or_comm, show x.1 = y.1 by omega]
theorem ac_1 (x y : AG) : (ac x y).1 = max x.1 y.1 := by
  unfold ac
  by_cases h1 : x.1 < y.1
  · rw [if_pos h1]; omega
  · by_cases h2 : y.1 < x.1
    · rw [if_neg h1, if_pos h2]; omega
    · rw [if_neg h1, if_neg h2]; simp only []; omega
theorem ac_lt {x y : AG} (h : x.1 < y.1) : ac x y = y := by unfold ac; rw [if_pos h]
theorem ac_gt {x y : AG} (h : y.1 < x.1) : ac x y = x := by rw [ac_comm]; exact ac_lt h
theorem ac_eq {x y : AG} (h : x.1 = y.1) : ac x y = (x.1, x.2.1 + y.2.1, x.2.2.1 &&& y.2.2.1, x.2.2.2 ||| y.2.2.2) := by unfold ac; rw [if_neg (by omega), if_neg (by omega)]
theorem ac_assoc (x y z : AG) : ac (ac x y) z = ac x (ac y z) := by
  rcases Nat.lt_trichotomy x.1 y.1 with h1 | h1 | h1
  · rw [ac_lt h1]
    rw [ac_lt (x := x) (y := ac y z) (by rw [ac_1]; omega)]
  · rcases Nat.lt_trichotomy y.1 z.1 with h2 | h2 | h2
    · rw [ac_lt h2, ac_lt (x := x) (y := z) (by omega), ac_lt (by rw [ac_1]; omega)]
    · rw [ac_eq h1, ac_eq h2, ac_eq (x := (x.1, x.2.1 + y.2.1, x.2.2.1 &&& y.2.2.1, x.2.2.2 ||| y.2.2.2)) (by simp only []; omega), ac_eq (x := x) (by simp only []; omega)]
      simp only [Nat.add_assoc, Nat.and_assoc, Nat.or_assoc]
    · rw [ac_gt h2, ac_gt (by rw [ac_1]; omega)]
  · rcases Nat.lt_trichotomy y.1 z.1 with h2 | h2 | h2
    · rw [ac_gt h1, ac_lt h2]
    · rw [ac_gt h1, ac_gt (x := x) (y := z) (by omega), ac_gt (x := x) (y := ac y z) (by rw [ac_1]; omega)]
    · rw [ac_gt h1, ac_gt h2, ac_gt h1, ac_gt (by omega)]
/-- one more reading is kept: so much good, that bit -/
def sh (g b : Nat) (x : AG) : AG := (x.1 + g, x.2.1, x.2.2.1 ||| b, x.2.2.2 ||| b)
theorem or_and_r (a b c : Nat) : (a &&& b) ||| c = (a ||| c) &&& (b ||| c) := by
  apply Nat.eq_of_testBit_eq
  intro i
  simp only [Nat.testBit_or, Nat.testBit_and]
  cases a.testBit i <;> cases b.testBit i <;> cases c.testBit i <;> rfl
theorem or_or_r (a b c : Nat) : (a ||| b) ||| c = (a ||| c) ||| (b ||| c) := by
  apply Nat.eq_of_testBit_eq
  intro i
  simp only [Nat.testBit_or]
  cases a.testBit i <;> cases b.testBit i <;> cases c.testBit i <;> rfl
theorem sh_ac (g b : Nat) (x y : AG) : sh g b (ac x y) = ac (sh g b x) (sh g b y) := by
  rcases Nat.lt_trichotomy x.1 y.1 with h | h | h
  · rw [ac_lt h, ac_lt (by simp only [sh]; omega)]
  · rw [ac_eq h, ac_eq (x := sh g b x) (by simp only [sh]; omega)]
    simp only [sh, or_and_r, or_or_r x.2.2.2 y.2.2.2 b]
  · rw [ac_gt h, ac_gt (by simp only [sh]; omega)]
def oc (x y : Option AG) : Option AG := match x, y with
  | none, y => y
  | some x, none => some x
  | some x, some y => some (ac x y)
theorem oc_none_l (x : Option AG) : oc none x = x := rfl
theorem oc_none_r (x : Option AG) : oc x none = x := by cases x <;> rfl
theorem oc_comm (x y : Option AG) : oc x y = oc y x := by
  cases x <;> cases y <;> first | rfl | exact congrArg some (ac_comm _ _)
theorem oc_assoc (x y z : Option AG) : oc (oc x y) z = oc x (oc y z) := by
  cases x <;> cases y <;> cases z <;> first | rfl | exact congrArg some (ac_assoc _ _ _)
theorem oc_map_sh (g b : Nat) (x y : Option AG) : (oc x y).map (sh g b) = oc (x.map (sh g b)) (y.map (sh g b)) := by
  cases x <;> cases y <;> first | rfl | exact congrArg some (sh_ac _ _ _ _)
/-- all of the codes below N -/
def af (v : Nat → Option (Nat × Nat)) : Nat → Option AG
  | 0 => none
  | N + 1 => oc (af v N) ((v N).map (fun q => (q.1, 1, q.2, q.2)))
theorem af_add (v : Nat → Option (Nat × Nat)) (A : Nat) : ∀ B, af v (A + B) = oc (af v A) (af (fun c => v (A + c)) B)
  | 0 => (oc_none_r _).symm
  | B + 1 => by
    show oc (af v (A + B)) _ = _
    rw [af_add v A B, oc_assoc]
    rfl
theorem af_congr {v w : Nat → Option (Nat × Nat)} : ∀ (N : Nat), (∀ c, c < N → v c = w c) → af v N = af w N
  | 0, _ => rfl
  | N + 1, h => by
    show oc (af v N) _ = oc (af w N) _
    rw [af_congr N (fun c hc => h c (by omega)), h N (by omega)]
theorem af_none : ∀ (N : Nat), af (fun _ => none) N = none
  | 0 => rfl
  | N + 1 => by
    show oc (af (fun _ => none) N) none = none
    rw [af_none N]; rfl
theorem af_sh (g b : Nat) (v : Nat → Option (Nat × Nat)) : ∀ (N : Nat), af (fun c => (v c).map (fun q => (q.1 + g, q.2 ||| b))) N = (af v N).map (sh g b)
  | 0 => rfl
  | N + 1 => by
    show oc (af _ N) _ = (oc (af v N) _).map _
    rw [af_sh g b v N, oc_map_sh]
    congr 1
    dsimp only
    cases v N <;> rfl
