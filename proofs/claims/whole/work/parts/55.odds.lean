/-! ===== the odds ===== -/
theorem x_within {p lo hi : Int32} {Q : Int32 → Prop} (h1 : ¬ p < lo → ¬ hi < p → Q 1) (h0 : (p < lo ∨ hi < p) → Q 0) : wp_X8_isWithin p lo hi Q := by
  unfold wp_X8_isWithin wp_X8_isWithin_b14 wp_X8_isWithin_b15
  exact ⟨fun a => ⟨Or.inl rfl, h0 (Or.inl a)⟩, fun a => ⟨fun b => ⟨Or.inl rfl, h0 (Or.inr b)⟩, fun b => ⟨Or.inr rfl, h1 a b⟩⟩⟩
theorem m_in {p lo hi : Int32} {Q : Int32 → Prop} (h1 : ¬ p < lo → ¬ hi < p → Q 1) (h0 : (p < lo ∨ hi < p) → Q 0) : wp_X9_in p lo hi Q := by
  unfold wp_X9_in wp_X9_in_b14 wp_X9_in_b15
  exact ⟨fun a => ⟨Or.inl rfl, h0 (Or.inl a)⟩, fun a => ⟨fun b => ⟨Or.inl rfl, h0 (Or.inr b)⟩, fun b => ⟨Or.inr rfl, h1 a b⟩⟩⟩
theorem has_I : ∀ S, S < 1024 → ∀ k, k < 10 → (nI S >>> (nI k &&& 31)) &&& (1 : Int32) = nI (S.testBit k).toNat := by decide +kernel
theorem m_has {S k : Nat} (hS : S < 1024) (hk : k < 10) {Q : Int32 → Prop} (h1 : S.testBit k = true → Q 1) (h0 : S.testBit k = false → Q 0) : wp_X9_has (nI S) (nI k) Q := by
  unfold wp_X9_has wp_X9_has_b14
  rw [has_I S hS k hk]
  cases c : S.testBit k with
  | true => exact ⟨fun e => absurd rfl e, fun _ => ⟨Or.inr rfl, h1 c⟩⟩
  | false => exact ⟨fun _ => ⟨Or.inl rfl, h0 c⟩, fun e => absurd e (by decide)⟩
theorem between {p hi : Int32} {n : Nat} (hM : hi.toInt = n) (h1 : ¬ p < 0) (h2 : ¬ hi < p) : ∃ j : Nat, j ≤ n ∧ p = nI j := nI_of2 hM h1 (Int32.not_lt.mp h2)
theorem sm_zero {f : Nat → Nat} : ∀ N, (∀ j, j < N → f j = 0) → sm f N = 0
  | 0, _ => rfl
  | N + 1, h => by
    show sm f N + f N = 0
    rw [sm_zero N (fun j hj => h j (by omega)), h N (by omega)]
theorem sm_le {f : Nat → Nat} {B : Nat} : ∀ N, (∀ j, j < N → f j ≤ B) → sm f N ≤ N * B
  | 0, _ => by show 0 ≤ _; omega
  | N + 1, h => by
    show sm f N + f N ≤ _
    have h1 := sm_le (B := B) N (fun j hj => h j (by omega))
    have h2 := h N (by omega)
    rw [Nat.add_mul, Nat.one_mul]
    omega
theorem sm_one (p : Nat) (w : Nat → Nat) : ∀ M, sm (fun j => (if p = j then 1 else 0) * w j) M = if p < M then w p else 0
  | 0 => by rw [if_neg (by omega)]; rfl
  | M + 1 => by
    show sm _ M + (if p = M then 1 else 0) * w M = _
    rw [sm_one p w M]
    by_cases e : p = M
    · subst e; rw [if_neg (by omega), if_pos rfl, if_pos (by omega)]; omega
    · rw [if_neg e]
      by_cases e2 : p < M
      · rw [if_pos e2, if_pos (by omega)]; omega
      · rw [if_neg e2, if_neg (by omega)]; omega
theorem sm_swap (P : Nat → Prop) [DecidablePred P] (w p : Nat → Nat) (n : Nat) : ∀ N, (∀ m, m < N → p m ≤ n) → sm (fun j => sm (fun m => if P m ∧ p m = j then 1 else 0) N * w j) (n + 1) = sm (fun m => if P m then w (p m) else 0) N
  | 0, _ => by
    rw [sm_zero]
    · rfl
    · intro j _; show 0 * _ = 0; omega
  | N + 1, h => by
    have ih := sm_swap P w p n N (fun m hm => h m (by omega))
    show _ = sm _ N + (if P N then w (p N) else 0)
    rw [← ih]
    have e1 : ∀ j, j < n + 1 → sm (fun m => if P m ∧ p m = j then 1 else 0) (N + 1) * w j = sm (fun m => if P m ∧ p m = j then 1 else 0) N * w j + (if P N ∧ p N = j then 1 else 0) * w j := by
      intro j _
      show (sm _ N + (if P N ∧ p N = j then 1 else 0)) * w j = _
      rw [Nat.add_mul]
    rw [sm_congr (n + 1) e1, sm_plus]
    congr 1
    by_cases c : P N
    · rw [if_pos c]
      have e2 : ∀ j, j < n + 1 → (if P N ∧ p N = j then 1 else 0) * w j = (if p N = j then 1 else 0) * w j := by
        intro j _
        by_cases d : p N = j
        · rw [if_pos ⟨c, d⟩, if_pos d]
        · rw [if_neg (fun q => d q.2), if_neg d]
      rw [sm_congr (n + 1) e2, sm_one, if_pos (by have := h N (by omega); omega)]
    · rw [if_neg c]
      apply sm_zero
      intro j _
      rw [if_neg (fun q => c q.1)]; omega
/-- how much a set weighs -/
def wt (n x S : Nat) : Nat := (10 - x) ^ pb S * x ^ (n - pb S)
def WT (h : HS) (n x g : Nat) : Nat := sm (fun S => if g ≤ VB h n S then wt n x S else 0) (2 ^ n)
def ce (h : HS) (n g N j : Nat) : Nat := sm (fun m => if g ≤ VB h n (rv n m) ∧ pb m = j then 1 else 0) N
theorem ce_le (h : HS) (n g N j : Nat) : ce h n g N j ≤ N := by
  have := sm_le (f := fun m => if g ≤ VB h n (rv n m) ∧ pb m = j then 1 else 0) (B := 1) N (fun m _ => by split <;> omega)
  unfold ce
  omega
theorem wt_le {n x S : Nat} (hx : x ≤ 10) (hn : n ≤ 10) (hS : pb S ≤ n) : wt n x S ≤ 10 ^ 10 := by
  unfold wt
  have h1 : (10 - x) ^ pb S ≤ 10 ^ pb S := Nat.pow_le_pow_left (by omega) _
  have h2 : x ^ (n - pb S) ≤ 10 ^ (n - pb S) := Nat.pow_le_pow_left hx _
  have h3 : 10 ^ pb S * 10 ^ (n - pb S) = 10 ^ n := by rw [← Nat.pow_add]; congr 1; omega
  have h4 : 10 ^ n ≤ 10 ^ 10 := Nat.pow_le_pow_right (by decide) hn
  exact Nat.le_trans (Nat.mul_le_mul h1 h2) (by rw [h3]; exact h4)
theorem WT_lt {h : HS} {n x g : Nat} (hn : n ≤ 10) (hx : x ≤ 10) : WT h n x g < 2 ^ 63 := by
  have h1 : WT h n x g ≤ 2 ^ n * 10 ^ 10 := by
    apply sm_le
    intro S hS
    split
    · exact wt_le hx hn (by have := pb_rv n (by omega) S (by have := p2_le hn; omega) hS; omega)
    · exact Nat.zero_le _
  have h2 := p2_le hn
  have h3 : 2 ^ n * 10 ^ 10 ≤ 1024 * 10 ^ 10 := Nat.mul_le_mul_right _ h2
  exact Nat.lt_of_le_of_lt (Nat.le_trans h1 h3) (by decide)
/-- the reduced fraction -/
def OI (n W u l : Nat) : Prop := ∃ K, u * K = W ∧ l * K = 10 ^ n
def OP (p n u l i : Nat) : Prop := ¬ (p ∣ u ∧ p ∣ l) ∨ ¬ p ^ (n - i + 1) ∣ l
theorem OI_div {n W u l p : Nat} (h : OI n W u l) (h1 : p ∣ u) (h2 : p ∣ l) : OI n W (u / p) (l / p) := by
  obtain ⟨K, a, b⟩ := h
  refine ⟨p * K, ?_, ?_⟩
  · rw [← Nat.mul_assoc, Nat.div_mul_cancel h1]; exact a
  · rw [← Nat.mul_assoc, Nat.div_mul_cancel h2]; exact b
theorem OP_keep {q n u l i p : Nat} (h : OP q n u l i) (h1 : p ∣ u) (h2 : p ∣ l) : OP q n (u / p) (l / p) i := by
  rcases h with h | h
  · exact Or.inl (fun ⟨a, b⟩ => h ⟨Nat.dvd_trans a (Nat.div_dvd_of_dvd h1), Nat.dvd_trans b (Nat.div_dvd_of_dvd h2)⟩)
  · exact Or.inr (fun a => h (Nat.dvd_trans a (Nat.div_dvd_of_dvd h2)))
theorem OP_step {n u l i p : Nat} (h : OP p n u l i) (hi : i < n) (h1 : p ∣ u) (h2 : p ∣ l) : OP p n (u / p) (l / p) (i + 1) := by
  rcases h with h | h
  · exact absurd ⟨h1, h2⟩ h
  · refine Or.inr (fun a => h ?_)
    rw [show n - (i + 1) + 1 = n - i by omega] at a
    have := Nat.mul_dvd_mul_right a p
    rw [Nat.div_mul_cancel h2, ← Nat.pow_succ] at this
    exact this
theorem OP_0 : ∀ n, n < 11 → ¬ 2 ^ (n + 1) ∣ 10 ^ n ∧ ¬ 5 ^ (n + 1) ∣ 10 ^ n := by decide +kernel
theorem g10 : ∀ d, d < 11 → d ∣ 10 → d = 1 ∨ 2 ∣ d ∨ 5 ∣ d := by decide
theorem cop10 {d n : Nat} (h1 : d ∣ 10 ^ n) (h2 : ¬ 2 ∣ d) (h5 : ¬ 5 ∣ d) : d = 1 := by
  have hc : Nat.Coprime d 10 := by
    have hg : Nat.gcd d 10 ∣ 10 := Nat.gcd_dvd_right d 10
    have hgd : Nat.gcd d 10 ∣ d := Nat.gcd_dvd_left d 10
    have hle : Nat.gcd d 10 ≤ 10 := Nat.le_of_dvd (by decide) hg
    rcases g10 _ (by omega) hg with e | e | e
    · exact e
    · exact absurd (Nat.dvd_trans e hgd) h2
    · exact absurd (Nat.dvd_trans e hgd) h5
  have hc2 : Nat.Coprime d (10 ^ n) := Nat.Coprime.pow_right n hc
  have : Nat.gcd d (10 ^ n) = d := Nat.gcd_eq_left h1
  rw [hc2] at this
  exact this.symm
theorem OI_end {n W u l : Nat} (h : OI n W u l) (h2 : OP 2 n u l n) (h5 : OP 5 n u l n) : u = W / Nat.gcd W (10 ^ n) ∧ l = 10 ^ n / Nat.gcd W (10 ^ n) := by
  obtain ⟨K, a, b⟩ := h
  have hl : l ∣ 10 ^ n := ⟨K, b.symm⟩
  have e2 : ¬ (2 ∣ u ∧ 2 ∣ l) := by
    rcases h2 with h2 | h2
    · exact h2
    · rw [Nat.sub_self] at h2
      exact fun q => h2 q.2
  have e5 : ¬ (5 ∣ u ∧ 5 ∣ l) := by
    rcases h5 with h2 | h2
    · exact h2
    · rw [Nat.sub_self] at h2
      exact fun q => h2 q.2
  have hg : Nat.gcd u l = 1 := cop10 (n := n) (Nat.dvd_trans (Nat.gcd_dvd_right u l) hl) (fun q => e2 ⟨Nat.dvd_trans q (Nat.gcd_dvd_left u l), Nat.dvd_trans q (Nat.gcd_dvd_right u l)⟩) (fun q => e5 ⟨Nat.dvd_trans q (Nat.gcd_dvd_left u l), Nat.dvd_trans q (Nat.gcd_dvd_right u l)⟩)
  have hK : Nat.gcd W (10 ^ n) = K := by rw [← a, ← b, Nat.gcd_mul_right, hg, Nat.one_mul]
  have hp : 0 < 10 ^ n := Nat.pow_pos (by decide)
  have hK0 : 0 < K := by
    rcases Nat.eq_zero_or_pos K with q | q
    · rw [q, Nat.mul_zero] at b; omega
    · exact q
  rw [hK]
  constructor
  · rw [← a, Nat.mul_div_cancel _ hK0]
  · rw [← b, Nat.mul_div_cancel _ hK0]
/-- what both answer -/
def OD (h : HS) (n : Nat) (p1 p2 p3 : Int32) : Int64 :=
  if (p1 < 0 ∨ 10 < p1) ∨ (p2 < 0 ∨ 180 < p2) ∨ (p3 < 0 ∨ 1 < p3) then -1
  else if p3 = 0 then lN (WT h n p1.toNatClampNeg p2.toNatClampNeg / Nat.gcd (WT h n p1.toNatClampNeg p2.toNatClampNeg) (10 ^ n))
  else lN (10 ^ n / Nat.gcd (WT h n p1.toNatClampNeg p2.toNatClampNeg) (10 ^ n))
theorem OD_0 {h : HS} {n x g : Nat} (hx : x ≤ 10) (hg : g ≤ 180) : OD h n (nI x) (nI g) 0 = lN (WT h n x g / Nat.gcd (WT h n x g) (10 ^ n)) := by
  unfold OD
  rw [if_neg, if_pos rfl, nI_cl (by omega), nI_cl (by omega)]
  rintro ((a | a) | (a | a) | (a | a))
  · exact nI_pos (by omega) a
  · exact nI_nlt (a := 10) hx (by decide) a
  · exact nI_pos (by omega) a
  · exact nI_nlt (a := 180) hg (by decide) a
  · exact absurd a (by decide)
  · exact absurd a (by decide)
theorem OD_1 {h : HS} {n x g : Nat} (hx : x ≤ 10) (hg : g ≤ 180) : OD h n (nI x) (nI g) 1 = lN (10 ^ n / Nat.gcd (WT h n x g) (10 ^ n)) := by
  unfold OD
  rw [if_neg, if_neg (by decide), nI_cl (by omega), nI_cl (by omega)]
  rintro ((a | a) | (a | a) | (a | a))
  · exact nI_pos (by omega) a
  · exact nI_nlt (a := 10) hx (by decide) a
  · exact nI_pos (by omega) a
  · exact nI_nlt (a := 180) hg (by decide) a
  · exact absurd a (by decide)
  · exact absurd a (by decide)
theorem OD_bad {h : HS} {n : Nat} {p1 p2 p3 : Int32} (e : (p1 < 0 ∨ 10 < p1) ∨ (p2 < 0 ∨ 180 < p2) ∨ (p3 < 0 ∨ 1 < p3)) : OD h n p1 p2 p3 = -1 := if_pos e
theorem x_power {b e : Nat} (hb : b ≤ 10) (he : e ≤ 10) {Q : Int64 → Prop} (hQ : Q (lN (b ^ e))) : wp_X2_power (nI b) (nI e) Q := by
  have hloop : ∀ (d i : Nat), i + d = e → wp_X2_power_h5 Q (d + 1) (nI b) (nI e) (lN (b ^ i)) (nI i) := by
    intro d
    induction d with
    | zero =>
      intro i hi
      have : i = e := by omega
      subst this
      rw [wp_X2_power_h5]
      exact bLE i i rfl rfl (by omega) (by omega) (fun _ => hQ) (fun q => by omega)
    | succ d ih =>
      intro i hi
      rw [wp_X2_power_h5]
      refine bLE e i rfl rfl (by omega) (by omega) (fun q => by omega) (fun _ => ?_)
      intro y hy z hz
      rw [nI_l (by omega), lN_mul, ← Nat.pow_succ] at hy
      rw [nI_1] at hz
      subst hy; subst hz
      exact ih (i + 1) (by omega)
  exact ⟨e + 1, hloop e 0 (by omega)⟩
section
variable {h : HS} {n : Nat} {rate : Int32} {sd sf sg : Nat → Int32}
theorem x_countEnough (hb : HB h n) {bests en : Nat → Int32} {g : Nat} (hg : g ≤ 180) (hl : LBS h n bests) {Q : (Nat → Int32) → Prop} (hQ : ∀ en : Nat → Int32, (∀ j, j < 11 → en j = nI (ce h n g (2 ^ n) j)) → Q en) : wp_X2_countEnough (nI n) bests en (nI g) Q := by
  have hn := hb.1
  have hp := p2_le hn
  unfold wp_X2_countEnough
  refine x_fill (by decide) (fun f0 hf0 => ?_)
  have hloop : ∀ (d m : Nat) (en : Nat → Int32), m + d = 2 ^ n → (∀ j, j < 11 → en j = nI (ce h n g m j)) → wp_X2_countEnough_h10 (nI n) bests Q (d + 1) (nI g) (nI m) en := by
    intro d
    induction d with
    | zero =>
      intro m en hm hen
      have : m = 2 ^ n := by omega
      subst this
      rw [wp_X2_countEnough_h10]
      dsimp only
      unfold wp_X6_size
      dsimp only
      rw [shl1 n (by omega)]
      exact bLE (2 ^ n) (2 ^ n) rfl rfl (by omega) (by omega) (fun _ => hQ en hen) (fun q => by omega)
    | succ d ih =>
      intro m en hm hen
      have hv := VB_180 hb (rv n m)
      have hpb := (pb_rv n (by omega) m (by omega) (by omega)).2
      have hce : ∀ j, ce h n g (m + 1) j = ce h n g m j + (if g ≤ VB h n (rv n m) ∧ pb m = j then 1 else 0) := fun j => rfl
      rw [wp_X2_countEnough_h10]
      dsimp only
      unfold wp_X6_size
      dsimp only
      rw [shl1 n (by omega)]
      refine bLE (2 ^ n) m rfl rfl (by omega) (by omega) (fun q => by omega) (fun _ => ?_)
      rw [nI_cl (by omega), hl m (by omega)]
      refine ⟨vin (by omega) (by decide), ?_⟩
      refine bLT (VB h n (rv n m)) g rfl rfl (by omega) (by omega) (fun q => ?_) (fun q => ?_)
      · unfold wp_X2_countEnough_b46
        intro y hy
        rw [nI_1] at hy
        subst hy
        refine ih (m + 1) en (by omega) (fun j hj => ?_)
        rw [hen j hj, hce j, if_neg (fun c => by have := c.1; omega), Nat.add_zero]
      · refine x_bitCount (by omega) ?_
        refine ⟨vin (by omega) (by decide), ?_⟩
        intro y hy
        rw [nI_cl (by omega), hen (pb m) (by omega)] at hy
        have hy' : y = nI (ce h n g m (pb m) + 1) := by rw [hy]; exact nI_1 _
        refine ⟨vin (by omega) (by decide), ?_⟩
        unfold wp_X2_countEnough_b46
        intro z hz
        rw [nI_1] at hz
        subst hz
        rw [nI_cl (by omega)]
        refine ih (m + 1) _ (by omega) (fun j hj => ?_)
        rw [hce j]
        by_cases e : pb m = j
        · subst e
          rw [upd_s, if_pos ⟨q, rfl⟩]
          exact hy'
        · rw [upd_n (fun c => e c.symm), if_neg (fun c => e c.2), Nat.add_zero]
          exact hen j hj
  exact ⟨2 ^ n + 1, hloop (2 ^ n) 0 f0 (by omega) (fun j hj => hf0 j hj)⟩
theorem WT_ce (hb : HB h n) (x g : Nat) : sm (fun j => ce h n g (2 ^ n) j * (10 - x) ^ j * x ^ (n - j)) (n + 1) = WT h n x g := by
  have hn := hb.1
  have hp := p2_le hn
  have h1 := sm_swap (fun m => g ≤ VB h n (rv n m)) (fun j => (10 - x) ^ j * x ^ (n - j)) pb n (2 ^ n) (fun m hm => (pb_rv n (by omega) m (by omega) hm).2)
  have h2 := sm_rv n (fun S => if g ≤ VB h n S then wt n x S else 0)
  unfold WT
  rw [← h2]
  rw [sm_congr (n + 1) (fun j _ => Nat.mul_assoc (ce h n g (2 ^ n) j) ((10 - x) ^ j) (x ^ (n - j)))]
  unfold ce
  rw [h1]
  apply sm_congr
  intro m hm
  unfold wt
  rw [(pb_rv n (by omega) m (by omega) hm).1]
theorem x_weightOf (hb : HB h n) (hr : rate = nI (hRate h)) (hS : SR h n sd sf sg) {bests kp en : Nat → Int32} {kn : Int32} (hk : kn = 0 ∨ (kn = 1 ∧ LBS h n bests)) {x g : Nat} (hx : x ≤ 10) (hg : g ≤ 180) {Q : Int64 → (Nat → Int32) → (Nat → Int32) → (Nat → Int32) → Int32 → Prop} (hQ : ∀ bests kp en, LBS h n bests → Q (lN (WT h n x g)) bests kp en 1) : wp_X2_weightOf rate (nI n) sd sf sg bests kp en kn (nI x) (nI g) Q := by
  have hn := hb.1
  have hgo : ∀ bests kp en, LBS h n bests → wp_X2_weightOf_b11 rate (nI n) sd sf sg Q (nI x) (nI g) bests kp en 1 := by
    intro bests kp en hl
    unfold wp_X2_weightOf_b11
    refine x_countEnough hb hg hl (fun en hen => ?_)
    unfold wp_X6_size
    have hloop : ∀ (d i : Nat), i + d = n + 1 → wp_X2_weightOf_h30 rate (nI n) sd sf sg Q (d + 1) (nI x) (nI n) (lN (sm (fun j => ce h n g (2 ^ n) j * (10 - x) ^ j * x ^ (n - j)) i)) (nI i) bests kp en 1 := by
      intro d
      induction d with
      | zero =>
        intro i hi
        have : i = n + 1 := by omega
        subst this
        rw [wp_X2_weightOf_h30]
        refine bLT n (n + 1) rfl rfl (by omega) (by omega) (fun _ => ?_) (fun q => by omega)
        rw [WT_ce hb]
        exact hQ bests kp en hl
      | succ d ih =>
        intro i hi
        rw [wp_X2_weightOf_h30]
        refine bLT n i rfl rfl (by omega) (by omega) (fun q => by omega) (fun _ => ?_)
        refine ⟨vin (by omega) (by decide), ?_⟩
        rw [show (10 : Int32) - nI x = nI (10 - x) from pk_sub hx, nI_subN (by omega)]
        refine x_power (by omega) (by omega) ?_
        refine x_power (by omega) (by omega) ?_
        intro y hy z hz
        have hcl := ce_le h n g (2 ^ n) i
        have hp := p2_le hn
        rw [nI_cl (by omega), hen i (by omega), nI_l (by omega), lN_mul, lN_mul, lN_add] at hy
        rw [nI_1] at hz
        subst hy; subst hz
        exact ih (i + 1) (by omega)
    exact ⟨n + 1 + 1, hloop (n + 1) 0 (by omega)⟩
  unfold wp_X2_weightOf
  rcases hk with e | ⟨e, hl⟩
  · subst e
    exact ⟨fun q => absurd rfl q, fun _ => x_findBests hb hr hS (fun bests kp hl => hgo bests kp en hl)⟩
  · subst e
    exact ⟨fun _ => hgo bests kp en hl, fun q => absurd q (by decide)⟩
theorem rem_0 {a b : Nat} (ha : a < 2 ^ 63) (h0 : 0 < b) (hb : b < 2 ^ 63) {A B : Prop} (h1 : ¬ b ∣ a → A) (h2 : b ∣ a → B) : (¬ (lg_cmp (lN a - lN a / lN b * lN b) (0 : Int64)) = 0 → A) ∧ ((lg_cmp (lN a - lN a / lN b * lN b) (0 : Int64)) = 0 → B) := by
  rw [pk_lRem ha h0 hb, lg_cmp_eq]
  have hm := Nat.mod_lt a h0
  have e : lN (a % b) = (0 : Int64) ↔ a % b = 0 := pk_lEQ (b := 0) (by omega) (by decide)
  constructor
  · exact fun q => h1 (fun c => q (e.mpr (Nat.mod_eq_zero_of_dvd c)))
  · exact fun q => h2 (Nat.dvd_of_mod_eq_zero (e.mp q))
theorem x_odds (hb : HB h n) (hr : rate = nI (hRate h)) (hS : SR h n sd sf sg) {bests kp en : Nat → Int32} {kn : Int32} (hk : kn = 0 ∨ (kn = 1 ∧ LBS h n bests)) {p1 p2 p3 : Int32} {Q : Int64 → (Nat → Int32) → (Nat → Int32) → (Nat → Int32) → Int32 → Prop} (hQ : ∀ bests kp en kn, (kn = 0 ∨ (kn = 1 ∧ LBS h n bests)) → Q (OD h n p1 p2 p3) bests kp en kn) : wp_X8_odds rate (nI n) sd sf sg bests kp en kn p1 p2 p3 Q := by
  have hn := hb.1
  have hbad : (p1 < 0 ∨ 10 < p1) ∨ (p2 < 0 ∨ 180 < p2) ∨ (p3 < 0 ∨ 1 < p3) → wp_X8_odds_b30 rate (nI n) sd sf sg Q bests kp en kn := by
    intro e
    unfold wp_X8_odds_b30
    have := hQ bests kp en kn hk
    rw [OD_bad e] at this
    exact this
  unfold wp_X8_odds
  refine x_within (fun a1 a2 => ⟨fun q => absurd q (by decide), fun _ => ?_⟩) (fun a => ⟨fun _ => hbad (Or.inl a), fun q => absurd rfl q⟩)
  refine x_within (fun b1 b2 => ⟨fun q => absurd q (by decide), fun _ => ?_⟩) (fun a => ⟨fun _ => hbad (Or.inr (Or.inl a)), fun q => absurd rfl q⟩)
  refine x_within (fun c1 c2 => ⟨fun _ => ?_, fun q => absurd q (by decide)⟩) (fun a => ⟨fun q => absurd rfl q, fun _ => hbad (Or.inr (Or.inr a))⟩)
  obtain ⟨x, hx, rfl⟩ := between (n := 10) rfl a1 a2
  obtain ⟨g, hg, rfl⟩ := between (n := 180) rfl b1 b2
  obtain ⟨t, ht, rfl⟩ := between (n := 1) rfl c1 c2
  refine x_weightOf hb hr hS hk hx hg (fun bests kp en hl => ?_)
  refine x_power (b := 10) (by omega) hn ?_
  have hW := WT_lt (h := h) (g := g) hn hx
  have hT : 10 ^ n < 2 ^ 63 := Nat.lt_of_le_of_lt (Nat.pow_le_pow_right (by decide) hn) (show 10 ^ 10 < 2 ^ 63 by decide)
  have hT0 : 0 < 10 ^ n := Nat.pow_pos (by decide)
  have hloop : ∀ (d i u l : Nat), i + d = n → OI n (WT h n x g) u l → OP 2 n u l i → OP 5 n u l i → wp_X8_odds_h69 rate (nI n) sd sf sg Q (d + 1) (nI t) (nI n) (lN u) (lN l) (nI i) bests kp en 1 := by
    intro d
    induction d with
    | zero =>
      intro i u l hi a1 a2 a3
      have : i = n := by omega
      subst this
      rw [wp_X8_odds_h69]
      refine bLE i i rfl rfl (by omega) (by omega) (fun _ => ?_) (fun q => by omega)
      obtain ⟨e1, e2⟩ := OI_end a1 a2 a3
      unfold wp_X8_odds_b169
      refine bNE t 0 rfl rfl (by omega) (by omega) (fun q => ?_) (fun q => ?_)
      · have : t = 1 := by omega
        subst this
        have := hQ bests kp en 1 (Or.inr ⟨rfl, hl⟩)
        rw [show nI 1 = (1 : Int32) from rfl, OD_1 hx hg, ← e2] at this
        exact this
      · subst q
        have := hQ bests kp en 1 (Or.inr ⟨rfl, hl⟩)
        rw [show nI 0 = (0 : Int32) from rfl, OD_0 hx hg, ← e1] at this
        exact this
    | succ d ih =>
      intro i u l hi a1 a2 a3
      have hbd : ∀ u l, OI n (WT h n x g) u l → u < 2 ^ 63 ∧ l < 2 ^ 63 := by
        intro u l ⟨K, q1, q2⟩
        have hK : 0 < K := by
          rcases Nat.eq_zero_or_pos K with q | q
          · rw [q, Nat.mul_zero] at q2; omega
          · exact q
        have h1 := Nat.le_mul_of_pos_right u hK
        have h2 := Nat.le_mul_of_pos_right l hK
        omega
      rw [wp_X8_odds_h69]
      refine bLE n i rfl rfl (by omega) (by omega) (fun q => by omega) (fun _ => ?_)
      have hfive : ∀ u l, OI n (WT h n x g) u l → OP 2 n u l (i + 1) → OP 5 n u l i → wp_X8_odds_b114 rate (nI n) sd sf sg Q (fun y0 y1 y2 y3 y4 y5 y6 y7 y8 => wp_X8_odds_h69 rate (nI n) sd sf sg Q (d + 1) y0 y1 y2 y3 y4 y5 y6 y7 y8) (nI t) (nI n) (lN u) (lN l) (nI i) bests kp en 1 := by
        intro u l a1 a2 a3
        obtain ⟨b1, b2⟩ := hbd u l a1
        have hend : ∀ u l, OI n (WT h n x g) u l → OP 2 n u l (i + 1) → OP 5 n u l (i + 1) → wp_X8_odds_b152 rate (nI n) sd sf sg Q (fun y0 y1 y2 y3 y4 y5 y6 y7 y8 => wp_X8_odds_h69 rate (nI n) sd sf sg Q (d + 1) y0 y1 y2 y3 y4 y5 y6 y7 y8) (nI t) (nI n) (lN u) (lN l) (nI i) bests kp en 1 := by
          intro u l a1 a2 a3
          unfold wp_X8_odds_b152
          intro y hy
          rw [nI_1] at hy
          subst hy
          exact ih (i + 1) u l (by omega) a1 a2 a3
        unfold wp_X8_odds_b114
        refine rem_0 (b := 5) b1 (by decide) (by decide) (fun q => hend u l a1 a2 (Or.inl (fun c => q c.1))) (fun q1 => ?_)
        refine rem_0 (b := 5) b2 (by decide) (by decide) (fun q => hend u l a1 a2 (Or.inl (fun c => q c.2))) (fun q2 => ?_)
        intro y hy z hz
        have hy' : y = lN (u / 5) := by rw [hy]; exact pk_lDiv (b := 5) b1 (by decide) (by decide)
        have hz' : z = lN (l / 5) := by rw [hz]; exact pk_lDiv (b := 5) b2 (by decide) (by decide)
        subst hy'; subst hz'
        exact hend _ _ (OI_div a1 q1 q2) (OP_keep a2 q1 q2) (OP_step a3 (by omega) q1 q2)
      obtain ⟨b1, b2⟩ := hbd u l a1
      refine rem_0 (b := 2) b1 (by decide) (by decide) (fun q => hfive u l a1 (Or.inl (fun c => q c.1)) a3) (fun q1 => ?_)
      refine rem_0 (b := 2) b2 (by decide) (by decide) (fun q => hfive u l a1 (Or.inl (fun c => q c.2)) a3) (fun q2 => ?_)
      intro y hy z hz
      have hy' : y = lN (u / 2) := by rw [hy]; exact pk_lDiv (b := 2) b1 (by decide) (by decide)
      have hz' : z = lN (l / 2) := by rw [hz]; exact pk_lDiv (b := 2) b2 (by decide) (by decide)
      subst hy'; subst hz'
      exact hfive _ _ (OI_div a1 q1 q2) (OP_step a2 (by omega) q1 q2) (OP_keep a3 q1 q2)
  have h0 := OP_0 n (by omega)
  exact ⟨n + 1, hloop n 0 _ _ (by omega) ⟨1, Nat.mul_one _, Nat.mul_one _⟩ (Or.inr h0.1) (Or.inr h0.2)⟩
end
