/-! ===== the odds in the reference ===== -/
def cb (S : Nat) : Nat → Nat
  | 0 => 0
  | k + 1 => cb S k + (S.testBit k).toNat
theorem cb_pb_b : (List.range 11).all (fun n => (List.range 1024).all (fun S => !(Nat.blt S (2 ^ n)) || Nat.beq (cb S n) (pb S))) = true := by decide +kernel
theorem cb_pb {n S : Nat} (hn : n < 11) (hS : S < 1024) (h : S < 2 ^ n) : cb S n = pb S := by
  have := all2 cb_pb_b hn hS
  have hb : Nat.blt S (2 ^ n) = true := by rw [Nat.blt_eq]; exact h
  rw [hb, Bool.not_true, Bool.false_or] at this
  exact Nat.eq_of_beq_eq_true this
theorem cb_le (S : Nat) : ∀ k, cb S k ≤ k
  | 0 => Nat.le_refl _
  | k + 1 => by
    have := cb_le S k
    show cb S k + (S.testBit k).toNat ≤ k + 1
    cases S.testBit k
    · show cb S k + 0 ≤ _; omega
    · show cb S k + 1 ≤ _; omega
def pr (x S k : Nat) : Nat := (10 - x) ^ cb S k * x ^ (k - cb S k)
theorem pr_t {x S k : Nat} (h : S.testBit k = true) : pr x S k * (10 - x) = pr x S (k + 1) := by
  have e : cb S (k + 1) = cb S k + 1 := by show cb S k + (S.testBit k).toNat = _; rw [h]; rfl
  have := cb_le S k
  unfold pr
  rw [e, show k + 1 - (cb S k + 1) = k - cb S k by omega, Nat.pow_succ, Nat.mul_right_comm]
theorem pr_f {x S k : Nat} (h : S.testBit k = false) : pr x S k * x = pr x S (k + 1) := by
  have e : cb S (k + 1) = cb S k := by show cb S k + (S.testBit k).toNat = _; rw [h]; rfl
  have := cb_le S k
  unfold pr
  rw [e, show k + 1 - cb S k = k - cb S k + 1 by omega, Nat.pow_succ, Nat.mul_assoc]
section
variable {h : HS} {n : Nat} {now : Nat → Int32} {Q : Int64 → Int32 → Int32 → Int32 → Int64 → Int32 → Int32 → (Nat → Int32) → Int32 → Int32 → Int32 → Prop}
theorem m_part {n x S : Nat} (hn : n ≤ 10) (hx : x ≤ 10) (hS : S < 2 ^ n) {v2 v3 : Int32} {v5 v7 : Int64} {kn best first : Int32} {many : Int64} {cert poss : Int32} {goods : Nat → Int32} {s1 s2 s3 : Int32} {K : Int32 → Int32 → Int32 → Int32 → Int64 → Int64 → Int32 → Int32 → Int32 → Int32 → Int64 → Int32 → Int32 → (Nat → Int32) → Int32 → Int32 → Int32 → Prop}
    (hK : K (nI x) v2 v3 (nI n) v5 (v7 + lN (wt n x S)) (nI (S + 1)) kn best first many cert poss goods s1 s2 s3) : ∀ (d k : Nat), k + d = n → wp_X9_odds_h105 now Q K (d + 1) (nI x) v2 v3 (nI n) v5 v7 (nI S) (lN (pr x S k)) (nI k) kn best first many cert poss goods s1 s2 s3 := by
  intro d
  have hp := p2_le hn
  induction d with
  | zero =>
    intro k hk
    have : k = n := by omega
    subst this
    rw [wp_X9_odds_h105]
    refine bLE k k rfl rfl (by omega) (by omega) (fun _ => ?_) (fun q => by omega)
    intro y hy
    unfold wp_X9_odds_b150
    intro z hz
    rw [nI_1] at hz
    subst hz; subst hy
    have e : pr x S k = wt k x S := by unfold pr wt; rw [cb_pb (by omega) (by omega) hS]
    rw [e]
    exact hK
  | succ d ih =>
    intro k hk
    rw [wp_X9_odds_h105]
    refine bLE n k rfl rfl (by omega) (by omega) (fun q => by omega) (fun _ => ?_)
    refine m_has (by omega) (by omega) (fun c => ?_) (fun c => ?_)
    · refine ⟨fun q => absurd q (by decide), fun _ => ?_⟩
      unfold wp_X9_odds_b134
      intro y hy z hz
      rw [show (10 : Int32) - nI x = nI (10 - x) from pk_sub hx, nI_l (by omega), lN_mul, pr_t c] at hy
      rw [nI_1] at hz
      subst hy; subst hz
      exact ih (k + 1) (by omega)
    · refine ⟨fun _ => ?_, fun q => absurd rfl q⟩
      unfold wp_X9_odds_b134
      intro y hy z hz
      rw [nI_l (by omega), lN_mul, pr_f c] at hy
      rw [nI_1] at hz
      subst hy; subst hz
      exact ih (k + 1) (by omega)
theorem m_gcd {t W T : Nat} (ht : t ≤ 1) (hW : W < 2 ^ 63) (hT : T < 2 ^ 63) {kn best first : Int32} {many : Int64} {cert poss : Int32} {goods : Nat → Int32} {s1 s2 s3 : Int32} (hT0 : 0 < T)
    (h0 : t = 0 → Q (lN (W / Nat.gcd W T)) kn best first many cert poss goods s1 s2 s3) (h1 : t = 1 → Q (lN (T / Nat.gcd W T)) kn best first many cert poss goods s1 s2 s3) : ∀ (m a b : Nat), b < m → a < 2 ^ 63 → b < 2 ^ 63 → Nat.gcd a b = Nat.gcd W T → wp_X9_odds_h164 now Q m (nI t) (lN T) (lN W) (lN a) (lN b) kn best first many cert poss goods s1 s2 s3 := by
  intro m
  have hg0 : 0 < Nat.gcd W T := Nat.gcd_pos_of_pos_right W hT0
  induction m with
  | zero => intro a b hb; omega
  | succ m ih =>
    intro a b hbm ha hb hg
    rw [wp_X9_odds_h164]
    have e0 : lN b = (0 : Int64) ↔ b = 0 := pk_lEQ (b := 0) hb (by decide)
    constructor
    · intro q
      rw [lg_cmp_eq, e0] at q
      subst q
      rw [Nat.gcd_zero_right] at hg
      subst hg
      have ha0 : ¬ lN (Nat.gcd W T) = (0 : Int64) := fun c => by
        have := (pk_lEQ (b := 0) ha (by decide)).mp c
        omega
      unfold wp_X9_odds_b206
      refine bNE t 0 rfl rfl (by omega) (by omega) (fun q => ⟨ha0, ?_⟩) (fun q => ⟨ha0, ?_⟩)
      · rw [pk_lDiv hT hg0 ha]
        exact h1 (by omega)
      · rw [pk_lDiv hW hg0 ha]
        exact h0 q
    · intro q
      rw [lg_cmp_eq, e0] at q
      refine ⟨fun c => q (e0.mp c), ?_⟩
      intro y hy
      rw [pk_lRem ha (by omega) hb] at hy
      subst hy
      have hm := Nat.mod_lt a (show 0 < b by omega)
      refine ih b (a % b) (by omega) hb (by omega) ?_
      rw [← hg, Nat.gcd_comm a b, Nat.gcd_rec b a, Nat.gcd_comm]
theorem m_odds (hb : HB h n) (hm : HM h n now) {kn best first : Int32} {many : Int64} {cert poss : Int32} {goods : Nat → Int32} {s1 s2 s3 : Int32} (hk : kn = 0 ∨ (kn = 1 ∧ KN h n best first many cert poss goods)) {p1 p2 p3 : Int32}
    (hQ : ∀ (kn best first : Int32) (many : Int64) (cert poss : Int32) (goods : Nat → Int32) (s1 s2 s3 : Int32), (kn = 0 ∨ (kn = 1 ∧ KN h n best first many cert poss goods)) → Q (OD h n p1 p2 p3) kn best first many cert poss goods s1 s2 s3) : wp_X9_odds now kn best first many cert poss goods s1 s2 s3 p1 p2 p3 Q := by
  have hn := hb.1
  have hp := p2_le hn
  have hbad : (p1 < 0 ∨ 10 < p1) ∨ (p2 < 0 ∨ 180 < p2) ∨ (p3 < 0 ∨ 1 < p3) → wp_X9_odds_b30 now Q kn best first many cert poss goods s1 s2 s3 := by
    intro e
    unfold wp_X9_odds_b30
    have := hQ kn best first many cert poss goods s1 s2 s3 hk
    rw [OD_bad e] at this
    exact this
  unfold wp_X9_odds
  refine m_in (fun a1 a2 => ⟨fun q => absurd q (by decide), fun _ => ?_⟩) (fun a => ⟨fun _ => hbad (Or.inl a), fun q => absurd rfl q⟩)
  refine m_in (fun b1 b2 => ⟨fun q => absurd q (by decide), fun _ => ?_⟩) (fun a => ⟨fun _ => hbad (Or.inr (Or.inl a)), fun q => absurd rfl q⟩)
  refine m_in (fun c1 c2 => ⟨fun _ => ?_, fun q => absurd q (by decide)⟩) (fun a => ⟨fun q => absurd rfl q, fun _ => hbad (Or.inr (Or.inr a))⟩)
  obtain ⟨x, hx, rfl⟩ := between (n := 10) rfl a1 a2
  obtain ⟨g, hg, rfl⟩ := between (n := 180) rfl b1 b2
  obtain ⟨t, ht, rfl⟩ := between (n := 1) rfl c1 c2
  refine m_knows hb hm hk (fun best first many cert poss goods s1 s2 s3 hK => ?_)
  intro y hy
  have hy' : y = nI n := by rw [hy]; exact hm.1
  subst hy'
  have hW := WT_lt (h := h) (g := g) hn hx
  have hT : 10 ^ n < 2 ^ 63 := Nat.lt_of_le_of_lt (Nat.pow_le_pow_right (by decide) hn) (show 10 ^ 10 < 2 ^ 63 by decide)
  have hT0 : 0 < 10 ^ n := Nat.pow_pos (by decide)
  have hgo := hQ 1 best first many cert poss goods s1 s2 s3 (Or.inr ⟨rfl, hK⟩)
  have hsum : ∀ (d m : Nat), m + d = 2 ^ n → wp_X9_odds_h79 now Q (d + 1) (nI x) (nI g) (nI t) (nI n) (lN (10 ^ n)) (lN (sm (fun S => if g ≤ VB h n S then wt n x S else 0) m)) (nI m) 1 best first many cert poss goods s1 s2 s3 := by
    intro d
    induction d with
    | zero =>
      intro m hmd
      have : m = 2 ^ n := by omega
      subst this
      rw [wp_X9_odds_h79]; dsimp only; rw [shl1 n (by omega)]
      refine bLE (2 ^ n) (2 ^ n) rfl rfl (by omega) (by omega) (fun _ => ?_) (fun q => by omega)
      refine ⟨10 ^ n + 1, m_gcd ht hW hT hT0 (fun e => ?_) (fun e => ?_) (10 ^ n + 1) _ _ (by omega) hW hT rfl⟩
      · subst e
        rw [show nI 0 = (0 : Int32) from rfl, OD_0 hx hg] at hgo
        exact hgo
      · subst e
        rw [show nI 1 = (1 : Int32) from rfl, OD_1 hx hg] at hgo
        exact hgo
    | succ d ih =>
      intro m hmd
      have hv := VB_180 hb m
      rw [wp_X9_odds_h79]; dsimp only; rw [shl1 n (by omega)]
      refine bLE (2 ^ n) m rfl rfl (by omega) (by omega) (fun q => by omega) (fun _ => ?_)
      rw [nI_cl (by omega), show goods m = nI (VB h n m) from hK.2.2.2.2.2 m (by omega)]
      refine ⟨vin (by omega) (by decide), ?_⟩
      have hsm : ∀ v, v = (if g ≤ VB h n m then wt n x m else 0) → sm (fun S => if g ≤ VB h n S then wt n x S else 0) m + v = sm (fun S => if g ≤ VB h n S then wt n x S else 0) (m + 1) := by
        intro v hv; subst hv; rfl
      refine bLT (VB h n m) g rfl rfl (by omega) (by omega) (fun q => ?_) (fun q => ?_)
      · unfold wp_X9_odds_b150
        intro y hy
        rw [nI_1] at hy
        subst hy
        have := ih (m + 1) (by omega)
        rw [← hsm 0 (by rw [if_neg (by omega)]), Nat.add_zero] at this
        exact this
      · refine ⟨n + 1, m_part hn hx (by omega) ?_ n 0 (by omega)⟩
        have := ih (m + 1) (by omega)
        rw [← hsm (wt n x m) (by rw [if_pos q]), ← lN_add] at this
        exact this
  have hten : ∀ (d i : Nat), i + d = n → wp_X9_odds_h52 now Q (d + 1) (nI x) (nI g) (nI t) (nI n) (lN (10 ^ i)) (nI i) 1 best first many cert poss goods s1 s2 s3 := by
    intro d
    induction d with
    | zero =>
      intro i hi
      have : i = n := by omega
      subst this
      rw [wp_X9_odds_h52]
      exact bLE i i rfl rfl (by omega) (by omega) (fun _ => ⟨2 ^ i + 1, hsum (2 ^ i) 0 (by omega)⟩) (fun q => by omega)
    | succ d ih =>
      intro i hi
      rw [wp_X9_odds_h52]
      refine bLE n i rfl rfl (by omega) (by omega) (fun q => by omega) (fun _ => ?_)
      intro y hy z hz
      have hy' : y = lN (10 ^ (i + 1)) := by rw [hy, Nat.pow_succ, ← lN_mul]; rfl
      rw [nI_1] at hz
      subst hy'; subst hz
      exact ih (i + 1) (by omega)
  exact ⟨n + 1, hten n 0 (by omega)⟩
end
