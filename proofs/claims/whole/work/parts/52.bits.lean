/-! ===== sets with the first reading as the highest bit ===== -/
def rv : Nat → Nat → Nat
  | 0, _ => 0
  | n + 1, m => rv n (m / 2) + m % 2 * 2 ^ n
def ntz (m : Nat) : Nat := ((List.range 10).find? (fun i => m.testBit i)).getD 10
theorem rv_low : ∀ n, n < 11 → ∀ m, m < 1024 → m < 2 ^ n → 0 < m → ntz m < n ∧ rv n m = rv n (m &&& (m - 1)) ||| 2 ^ (n - 1 - ntz m) ∧ rv n (m &&& (m - 1)) < 2 ^ (n - 1 - ntz m) := by decide +kernel
theorem rv_lt : ∀ (n m : Nat), rv n m < 2 ^ n
  | 0, _ => by show 0 < 1; decide
  | n + 1, m => by
    have := rv_lt n (m / 2)
    have hp : 2 ^ (n + 1) = 2 ^ n + 2 ^ n := by rw [Nat.pow_succ]; omega
    unfold rv
    rcases (show m % 2 = 0 ∨ m % 2 = 1 by omega) with e | e
    · rw [e]; omega
    · rw [e]; omega
theorem pb_rv : ∀ n, n < 11 → ∀ m, m < 1024 → m < 2 ^ n → pb (rv n m) = pb m ∧ pb m ≤ n := by decide +kernel
theorem all2 {p : Nat → Nat → Bool} {A B : Nat} (h : (List.range A).all (fun n => (List.range B).all (fun m => p n m)) = true) {n m : Nat} (hn : n < A) (hm : m < B) : p n m = true := by
  have h1 := List.all_eq_true.mp h n (List.mem_range.mpr hn)
  exact List.all_eq_true.mp h1 m (List.mem_range.mpr hm)
theorem all3 {p : Nat → Nat → Nat → Bool} {A B C : Nat} (h : (List.range A).all (fun n => (List.range B).all (fun m => (List.range C).all (fun b => p n m b))) = true) {n m b : Nat} (hn : n < A) (hm : m < B) (hb : b < C) : p n m b = true := by
  have h1 := List.all_eq_true.mp h n (List.mem_range.mpr hn)
  have h2 := List.all_eq_true.mp h1 m (List.mem_range.mpr hm)
  exact List.all_eq_true.mp h2 b (List.mem_range.mpr hb)
theorem rv_less_b : (List.range 11).all (fun n => (List.range 1024).all (fun m => (List.range 10).all (fun b => !(Nat.blt m (2 ^ n) && m.testBit b) || (Nat.blt b n && (Nat.beq (rv n (m - 2 ^ b) + 2 ^ (n - 1 - b)) (rv n m) && (rv n m).testBit (n - 1 - b)))))) = true := by decide +kernel
theorem rv_less {n m b : Nat} (hn : n < 11) (hm : m < 1024) (hb : b < 10) (h1 : m < 2 ^ n) (h2 : m.testBit b = true) : b < n ∧ rv n (m - 2 ^ b) + 2 ^ (n - 1 - b) = rv n m ∧ (rv n m).testBit (n - 1 - b) = true := by
  have := all3 rv_less_b hn hm hb
  have q : Nat.blt m (2 ^ n) = true := by rw [Nat.blt_eq]; exact h1
  rw [q, h2] at this
  simpa [Nat.blt_eq, Nat.beq_eq] using this
theorem rv_has_b : (List.range 11).all (fun n => (List.range 1024).all (fun m => (List.range 10).all (fun i => !(Nat.blt m (2 ^ n) && (rv n m).testBit i) || (Nat.blt i n && m.testBit (n - 1 - i))))) = true := by decide +kernel
theorem rv_has {n m i : Nat} (hn : n < 11) (hm : m < 1024) (hi : i < 10) (h1 : m < 2 ^ n) (h2 : (rv n m).testBit i = true) : i < n ∧ m.testBit (n - 1 - i) = true := by
  have := all3 rv_has_b hn hm hi
  have q : Nat.blt m (2 ^ n) = true := by rw [Nat.blt_eq]; exact h1
  rw [q, h2] at this
  simpa [Nat.blt_eq] using this
theorem pred_tb_b : (List.range 1024).all (fun m => (List.range 10).all (fun b => !(Nat.blt 0 m && (!(Nat.beq b (ntz m)) && m.testBit b)) || (Nat.blt (ntz m) b && ((m - 1).testBit b && Nat.beq (m / 2 ^ b) ((m - 1) / 2 ^ b))))) = true := by decide +kernel
theorem pred_tb {m b : Nat} (hm : m < 1024) (hb : b < 10) (h0 : 0 < m) (h1 : b ≠ ntz m) (h2 : m.testBit b = true) : ntz m < b ∧ (m - 1).testBit b = true ∧ m / 2 ^ b = (m - 1) / 2 ^ b := by
  have := all2 pred_tb_b hm hb
  have q : Nat.blt 0 m = true := by rw [Nat.blt_eq]; exact h0
  have q2 : Nat.beq b (ntz m) = false := by rw [← Bool.not_eq_true, Nat.beq_eq]; exact h1
  rw [q, h2, q2] at this
  simpa [Nat.blt_eq, Nat.beq_eq] using this
theorem pre_tb : ∀ m, m < 1024 → 0 < m → m &&& (m - 1) ≠ 0 → (m - 1).testBit (ntz (m &&& (m - 1))) = true ∧ (m - 1) / 2 ^ (ntz (m &&& (m - 1))) * 2 ^ (ntz (m &&& (m - 1))) = m &&& (m - 1) ∧ ntz m < ntz (m &&& (m - 1)) := by decide +kernel
theorem ntz_tb : ∀ m, m < 1024 → 0 < m → ntz m < 10 ∧ m.testBit (ntz m) = true ∧ m / 2 ^ (ntz m) * 2 ^ (ntz m) = m := by decide +kernel
def ntz4 (v0 v1 : Int32) : Int32 := v1 + (v0.toUInt32 >>> ((1 : Int32).toUInt32 &&& Int32.toUInt32 31)).toInt32
def ntz3 (v0 v1 : Int32) : Int32 := if v0 ≤ 4 then ntz4 v0 v1 else ntz4 (v0.toUInt32 >>> ((2 : Int32).toUInt32 &&& Int32.toUInt32 31)).toInt32 (v1 + 2)
def ntz2 (v0 v1 : Int32) : Int32 := if v0 ≤ 16 then ntz3 v0 v1 else ntz3 (v0.toUInt32 >>> ((4 : Int32).toUInt32 &&& Int32.toUInt32 31)).toInt32 (v1 + 4)
def ntz1 (v0 v1 : Int32) : Int32 := if v0 ≤ 256 then ntz2 v0 v1 else ntz2 (v0.toUInt32 >>> ((8 : Int32).toUInt32 &&& Int32.toUInt32 31)).toInt32 (v1 + 8)
def ntzA (x : Int32) : Int32 := if 0 < x then (if x ≤ 65536 then ntz1 x 1 else ntz1 (x.toUInt32 >>> ((16 : Int32).toUInt32 &&& Int32.toUInt32 31)).toInt32 17) else x &&& 32
theorem ntz_I : ∀ m, m < 1024 → 0 < m → ntzA ((nI m ^^^ (-1 : Int32)) &&& (nI m - (1 : Int32))) = nI (ntz m) := by decide +kernel
theorem ite_w {c : Prop} [Decidable c] {A B : Prop} (h1 : c → A) (h2 : ¬ c → B) : (c → A) ∧ (¬ c → B) := ⟨h1, h2⟩
theorem x_ntz4 {Q : Int32 → Prop} {v0 v1 : Int32} (h : Q (ntz4 v0 v1)) : wp_J6_numberOfTrailingZeros_0f7a4_b74 Q v0 v1 := by
  unfold wp_J6_numberOfTrailingZeros_0f7a4_b74
  intro x hx
  subst hx
  exact h
theorem x_ntz3 {Q : Int32 → Prop} {v0 v1 : Int32} (h : Q (ntz3 v0 v1)) : wp_J6_numberOfTrailingZeros_0f7a4_b62 Q v0 v1 := by
  unfold wp_J6_numberOfTrailingZeros_0f7a4_b62
  unfold ntz3 at h
  refine ⟨fun c => ?_, fun c x hx y hy => ?_⟩
  · rw [if_pos c] at h; exact x_ntz4 h
  · subst hx hy; rw [if_neg c] at h; exact x_ntz4 h
theorem x_ntz2 {Q : Int32 → Prop} {v0 v1 : Int32} (h : Q (ntz2 v0 v1)) : wp_J6_numberOfTrailingZeros_0f7a4_b49 Q v0 v1 := by
  unfold wp_J6_numberOfTrailingZeros_0f7a4_b49
  unfold ntz2 at h
  refine ⟨fun c => ?_, fun c x hx y hy => ?_⟩
  · rw [if_pos c] at h; exact x_ntz3 h
  · subst hx hy; rw [if_neg c] at h; exact x_ntz3 h
theorem x_ntz1 {Q : Int32 → Prop} {v0 v1 : Int32} (h : Q (ntz1 v0 v1)) : wp_J6_numberOfTrailingZeros_0f7a4_b34 Q v0 v1 := by
  unfold wp_J6_numberOfTrailingZeros_0f7a4_b34
  unfold ntz1 at h
  refine ⟨fun c => ?_, fun c x hx y hy => ?_⟩
  · rw [if_pos c] at h; exact x_ntz2 h
  · subst hx hy; rw [if_neg c] at h; exact x_ntz2 h
theorem x_ntz {m : Nat} (hm : m < 1024) (h0 : 0 < m) {Q : Int32 → Prop} (h : Q (nI (ntz m))) : wp_J6_numberOfTrailingZeros_0f7a4 (nI m) Q := by
  unfold wp_J6_numberOfTrailingZeros_0f7a4
  intro x hx
  rw [← ntz_I m hm h0, ← hx] at h
  unfold ntzA at h
  refine ⟨fun c => ⟨fun c2 => ?_, fun c2 y hy => ?_⟩, fun c => ?_⟩
  · rw [if_pos c, if_pos c2] at h; exact x_ntz1 h
  · subst hy; rw [if_pos c, if_neg c2] at h; exact x_ntz1 h
  · rw [if_neg c] at h; exact h
def bc1 (p : Int32) : Int32 := p - ((p.toUInt32 >>> ((1 : Int32).toUInt32 &&& Int32.toUInt32 31)).toInt32 &&& 1431655765)
def bc2 (p : Int32) : Int32 := (p &&& 858993459) + ((p.toUInt32 >>> ((2 : Int32).toUInt32 &&& Int32.toUInt32 31)).toInt32 &&& 858993459)
def bc3 (p : Int32) : Int32 := (p + (p.toUInt32 >>> ((4 : Int32).toUInt32 &&& Int32.toUInt32 31)).toInt32) &&& 252645135
def bc4 (p : Int32) : Int32 := p + (p.toUInt32 >>> ((8 : Int32).toUInt32 &&& Int32.toUInt32 31)).toInt32
def bc5 (p : Int32) : Int32 := p + (p.toUInt32 >>> ((16 : Int32).toUInt32 &&& Int32.toUInt32 31)).toInt32
theorem bc_I : ∀ m, m < 1024 → bc5 (bc4 (bc3 (bc2 (bc1 (nI m))))) &&& 63 = nI (pb m) := by decide +kernel
theorem x_bitCount {m : Nat} (hm : m < 1024) {Q : Int32 → Prop} (h : Q (nI (pb m))) : wp_J6_bitCount_0f7a4 (nI m) Q := by
  unfold wp_J6_bitCount_0f7a4
  intro a ha b hb c hc d hd e he f hf g hg i hi j hj k hk
  rw [← bc_I m hm] at h
  subst ha hb hc hd he hf hg hi hj hk
  exact h
/-- sums over all sets -/
def sm (f : Nat → Nat) : Nat → Nat
  | 0 => 0
  | N + 1 => sm f N + f N
theorem sm_add (f : Nat → Nat) (A : Nat) : ∀ B, sm f (A + B) = sm f A + sm (fun c => f (A + c)) B
  | 0 => rfl
  | B + 1 => by
    show sm f (A + B) + f (A + B) = sm f A + (sm _ B + f (A + B))
    rw [sm_add f A B]; omega
theorem sm_congr {f g : Nat → Nat} : ∀ N, (∀ c, c < N → f c = g c) → sm f N = sm g N
  | 0, _ => rfl
  | N + 1, h => by
    show sm f N + f N = sm g N + g N
    rw [sm_congr N (fun c hc => h c (by omega)), h N (by omega)]
theorem sm_two (f : Nat → Nat) : ∀ N, sm f (2 * N) = sm (fun c => f (2 * c) + f (2 * c + 1)) N
  | 0 => rfl
  | N + 1 => by
    show sm f (2 * N + 1 + 1) = _
    show sm f (2 * N) + f (2 * N) + f (2 * N + 1) = sm _ N + (f (2 * N) + f (2 * N + 1))
    rw [sm_two f N]; omega
theorem sm_plus (f g : Nat → Nat) : ∀ N, sm (fun c => f c + g c) N = sm f N + sm g N
  | 0 => rfl
  | N + 1 => by
    show sm _ N + (f N + g N) = (sm f N + f N) + (sm g N + g N)
    rw [sm_plus f g N]; omega
theorem sm_rv : ∀ (n : Nat) (f : Nat → Nat), sm (fun m => f (rv n m)) (2 ^ n) = sm f (2 ^ n)
  | 0, _ => rfl
  | n + 1, f => by
    have hp : 2 ^ (n + 1) = 2 * 2 ^ n := by rw [Nat.pow_succ]; omega
    rw [hp, sm_two]
    have h1 : ∀ c, c < 2 ^ n → f (rv (n + 1) (2 * c)) + f (rv (n + 1) (2 * c + 1)) = f (rv n c) + f (2 ^ n + rv n c) := by
      intro c _
      show f (rv n (2 * c / 2) + 2 * c % 2 * 2 ^ n) + f (rv n ((2 * c + 1) / 2) + (2 * c + 1) % 2 * 2 ^ n) = _
      rw [show 2 * c / 2 = c by omega, show 2 * c % 2 = 0 by omega, show (2 * c + 1) / 2 = c by omega, show (2 * c + 1) % 2 = 1 by omega, Nat.zero_mul, Nat.add_zero, Nat.one_mul, Nat.add_comm (rv n c) (2 ^ n)]
    rw [sm_congr _ h1, sm_plus, sm_rv n f, sm_rv n (fun S => f (2 ^ n + S)), show 2 * 2 ^ n = 2 ^ n + 2 ^ n by omega, sm_add]
