/-! ===== the reference's knows: all codes, then the best of each set ===== -/
theorem fw_sv (h : HS) (n c : Nat) : ∀ (r j : Nat) (q : SG) (g T : Nat), j + r = n → fw h n c j = some (q, g, T) → (fw h n c n).map (fun v => (v.2.1, v.2.2)) = (sv h r j q (c % 3 ^ r)).map (fun v => (g + v.1, T ||| v.2))
  | 0, j, q, g, T, hj, e => by
    have : j = n := by omega
    subst this
    rw [e]
    simp [sv]
  | r + 1, j, q, g, T, hj, e => by
    have e3 : 3 ^ (r + 1) = 3 ^ r * 3 := Nat.pow_succ 3 r
    have hd : c % 3 ^ (r + 1) / 3 ^ r = dg n c j := by
      rw [e3, Nat.mod_mul_right_div_self]
      unfold dg
      rw [show n - 1 - j = r by omega]
    have hm : c % 3 ^ (r + 1) % 3 ^ r = c % 3 ^ r := by rw [e3, Nat.mod_mul_right_mod]
    have hfw1 : fw h n c (j + 1) = if dg n c j = 2 then some (q, g, T) else match stp h q j (dg n c j) with
      | none => none
      | some f => some (some (j, f), g + gd h j (dg n c j), T ||| 2 ^ j) := by
      conv => lhs; unfold fw
      rw [e]
      rfl
    have hsv : sv h (r + 1) j q (c % 3 ^ (r + 1)) = if dg n c j = 2 then sv h r (j + 1) q (c % 3 ^ r) else match stp h q j (dg n c j) with
      | none => none
      | some f => (sv h r (j + 1) (some (j, f)) (c % 3 ^ r)).map (fun v => (v.1 + gd h j (dg n c j), v.2 ||| 2 ^ j)) := by
      conv => lhs; unfold sv
      rw [hd, hm]
      rfl
    rw [hsv]
    by_cases h2 : dg n c j = 2
    · rw [if_pos h2] at hfw1 ⊢
      exact fw_sv h n c r (j + 1) q g T (by omega) hfw1
    · rw [if_neg h2] at hfw1 ⊢
      cases hs : stp h q j (dg n c j) with
      | none =>
        rw [hs] at hfw1
        have := fw_none (n - (j + 1)) (j + 1) hfw1
        rw [show j + 1 + (n - (j + 1)) = n by omega] at this
        rw [this]
        rfl
      | some f =>
        rw [hs] at hfw1
        rw [fw_sv h n c r (j + 1) _ _ _ (by omega) hfw1]
        dsimp only
        rw [Option.map_map]
        congr 1
        funext v
        simp only [Function.comp]
        congr 1
        · omega
        · rw [Nat.or_assoc, Nat.or_comm (2 ^ j)]
def vm (h : HS) (n c : Nat) : Option (Nat × Nat) := (fw h n c n).map (fun v => (v.2.1, v.2.2))
theorem vm_sv (h : HS) {n c : Nat} (hc : c < 3 ^ n) : vm h n c = sv h n 0 none c := by
  unfold vm
  rw [fw_sv h n c n 0 none 0 0 (by omega) rfl, Nat.mod_eq_of_lt hc]
  cases sv h n 0 none c with
  | none => rfl
  | some v => simp
/-- the greatest good of a set, of the codes below N -/
def gx (v : Nat → Option (Nat × Nat)) : Nat → Nat → Nat
  | 0, _ => 0
  | N + 1, T => match v N with
    | none => gx v N T
    | some (g, T') => if T = T' then max (gx v N T) g else gx v N T
def clr (t k : Nat) : Nat := t &&& (1023 - 2 ^ k)
def cls (f : Nat → Nat) : Nat → Nat → Nat
  | 0, S => f S
  | k + 1, S => max (cls f k S) (cls f k (clr S k))
theorem clr_I : ∀ k, k < 10 → ∀ t, t < 1024 → nI t &&& (((1 : Int32) <<< (nI k &&& 31)) ^^^ (-1 : Int32)) = nI (clr t k) := by decide +kernel
theorem clr_le (t k : Nat) : clr t k ≤ t := Nat.and_le_left
theorem clr_clr (t k : Nat) : clr (clr t k) k = clr t k := by
  unfold clr
  rw [Nat.and_assoc, Nat.and_self]
theorem vm_ok {h : HS} {n c g T : Nat} (hb : HB h n) (e : vm h n c = some (g, T)) : g ≤ 180 ∧ T < 2 ^ n := by
  unfold vm at e
  cases hf : fw h n c n with
  | none => rw [hf] at e; cases e
  | some v =>
    obtain ⟨q, g', T'⟩ := v
    rw [hf] at e
    cases e
    have := fw_ok hb n q g' T' (Nat.le_refl n) hf
    have hn := hb.1
    show g' ≤ 180 ∧ T' < 2 ^ n
    exact ⟨by omega, this.2.2⟩
theorem gx_le {h : HS} {n : Nat} (hb : HB h n) : ∀ (N T : Nat), gx (vm h n) N T ≤ 180
  | 0, _ => by show 0 ≤ 180; omega
  | N + 1, T => by
    have := gx_le hb N T
    unfold gx
    split
    · exact this
    · rename_i g T' e
      have := (vm_ok hb e).1
      split <;> omega
theorem cls_le {f : Nat → Nat} (hf : ∀ T, f T ≤ 180) : ∀ (k S : Nat), cls f k S ≤ 180
  | 0, S => hf S
  | k + 1, S => by
    have h1 := cls_le hf k S
    have h2 := cls_le hf k (clr S k)
    show max _ _ ≤ 180
    omega
theorem af_ok {h : HS} {n : Nat} (hb : HB h n) : ∀ (N : Nat) (x : AG), af (vm h n) N = some x → x.1 ≤ 180 ∧ x.2.1 ≤ N ∧ x.2.2.1 < 2 ^ n ∧ x.2.2.2 < 2 ^ n
  | 0, x, e => by cases e
  | N + 1, x, e => by
    unfold af at e
    cases hv : vm h n N with
    | none =>
      rw [hv] at e
      have e' : af (vm h n) N = some x := by rw [← oc_none_r (af (vm h n) N)]; exact e
      have := af_ok hb N x e'
      exact ⟨this.1, by omega, this.2.2⟩
    | some v =>
      obtain ⟨g, T⟩ := v
      rw [hv] at e
      obtain ⟨h1, h2⟩ := vm_ok hb hv
      cases ha : af (vm h n) N with
      | none =>
        rw [ha] at e
        have e' : ((g, 1, T, T) : AG) = x := Option.some.inj e
        subst e'
        exact ⟨h1, by show 1 ≤ N + 1; omega, h2, h2⟩
      | some y =>
        rw [ha] at e
        have e' : ac y (g, 1, T, T) = x := Option.some.inj e
        obtain ⟨b1, b2, b3, b4⟩ := af_ok hb N y ha
        subst e'
        rcases Nat.lt_trichotomy y.1 g with q | q | q
        · rw [ac_lt (y := (g, 1, T, T)) q]; exact ⟨h1, by show 1 ≤ N + 1; omega, h2, h2⟩
        · rw [ac_eq (y := (g, 1, T, T)) q]; exact ⟨b1, by show y.2.1 + 1 ≤ N + 1; omega, Nat.lt_of_le_of_lt Nat.and_le_left b3, Nat.or_lt_two_pow b4 h2⟩
        · rw [ac_gt (y := (g, 1, T, T)) q]; exact ⟨b1, by omega, b3, b4⟩
/-- what the reference knows after the codes below N -/
def MI (v : Nat → Option (Nat × Nat)) (N : Nat) (best first : Int32) (many : Int64) (cert poss : Int32) : Prop := match af v N with
  | none => best = -1
  | some x => best = nI x.1 ∧ first = nI (ff v N) ∧ many = lN x.2.1 ∧ cert = nI x.2.2.1 ∧ poss = nI x.2.2.2
section
variable {h : HS} {n : Nat} {now : Nat → Int32} {Q : Int32 → Int32 → Int32 → Int64 → Int32 → Int32 → (Nat → Int32) → Int32 → Int32 → Int32 → Prop}
theorem p2_le {k : Nat} (hk : k ≤ 10) : 2 ^ k ≤ 1024 := Nat.le_trans (Nat.pow_le_pow_right (by decide) hk) (by decide)
/-- one pass over the sets -/
theorem m_pass (hb : HB h n) (f : Nat → Nat) (hf : ∀ T, f T ≤ 180) {k : Nat} (hk : k < n) {kn best first : Int32} {many : Int64} {cert poss s1 s2 s3 : Int32} {K : Int32 → Int32 → Int32 → Int32 → Int32 → Int64 → Int32 → Int32 → (Nat → Int32) → Int32 → Int32 → Int32 → Prop}
    (hK : ∀ goods : Nat → Int32, (∀ S, S < 2 ^ n → goods S = nI (cls f (k + 1) S)) → K (nI n) (nI (k + 1)) kn best first many cert poss goods s1 s2 s3) :
    ∀ (d s : Nat) (goods : Nat → Int32), s + d = 2 ^ n → (∀ S, S < 2 ^ n → goods S = nI (if S < s then cls f (k + 1) S else cls f k S)) → wp_X9_knows_h270 now Q K (d + 1) (nI n) (nI k) (nI s) kn best first many cert poss goods s1 s2 s3 := by
  have hn := hb.1
  have hp := p2_le hn
  intro d
  induction d with
  | zero =>
    intro s goods hs hg
    simp only [wp_X9_knows_h270]
    rw [shl1 n (by omega)]
    refine bLE (2 ^ n) s rfl rfl (by omega) (by omega) (fun _ => ?_) (fun e => by omega)
    intro x hx
    have hx' : x = nI (k + 1) := by rw [hx]; exact nI_1 k
    subst hx'
    exact hK goods (fun S hS => by rw [hg S hS, if_pos (by omega)])
  | succ d ih =>
    intro s goods hs hg
    simp only [wp_X9_knows_h270]
    rw [shl1 n (by omega)]
    refine bLE (2 ^ n) s rfl rfl (by omega) (by omega) (fun e => by omega) (fun _ => ?_)
    have hcl := clr_le s k
    rw [clr_I k (by omega) s (by omega), nI_cl (by omega), nI_cl (by omega)]
    refine ⟨vin (by omega) (by decide), ?_⟩
    have hlow : goods (clr s k) = nI (cls f k (clr s k)) := by
      rw [hg _ (by omega)]
      split
      · congr 1
        show max (cls f k (clr s k)) (cls f k (clr (clr s k) k)) = _
        rw [clr_clr]; omega
      · rfl
    have hown : goods s = nI (cls f k s) := by rw [hg s (by omega), if_neg (by omega)]
    have b1 := cls_le hf k s
    have b2 := cls_le hf k (clr s k)
    intro x hx
    rw [hlow] at hx
    subst hx
    refine ⟨vin (by omega) (by decide), ?_⟩
    have hend : ∀ w : Int32, w = nI (cls f (k + 1) s) → wp_X9_knows_b318 now Q K (fun y0 y1 y2 y3 y4 y5 y6 y7 y8 y9 y10 y11 y12 => wp_X9_knows_h270 now Q K (d + 1) y0 y1 y2 y3 y4 y5 y6 y7 y8 y9 y10 y11 y12) w (nI s) (nI n) (nI k) (nI s) kn best first many cert poss goods s1 s2 s3 := by
      intro w hw
      unfold wp_X9_knows_b318
      refine ⟨vin (by omega) (by decide), ?_⟩
      intro y hy
      have hy' : y = nI (s + 1) := by rw [hy]; exact nI_1 s
      subst hy'
      rw [nI_cl (by omega)]
      refine ih (s + 1) _ (by omega) (fun S hS => ?_)
      by_cases e : S = s
      · subst e; rw [upd_s, hw, if_pos (by omega)]
      · rw [upd_n e, hg S hS]
        congr 1
        by_cases q : S < s
        · rw [if_pos q, if_pos (by omega)]
        · rw [if_neg q, if_neg (by omega)]
    rw [hown]
    refine bLE (cls f k (clr s k)) (cls f k s) rfl rfl (by omega) (by omega) (fun e => ⟨vin (by omega) (by decide), hend _ ?_⟩) (fun e => hend _ ?_)
    · congr 1; show _ = max _ _; omega
    · congr 1; show _ = max _ _; omega
theorem m_passes (hb : HB h n) (f : Nat → Nat) (hf : ∀ T, f T ≤ 180) {kn best first : Int32} {many : Int64} {cert poss s1 s2 s3 : Int32}
    (hQ : ∀ goods : Nat → Int32, (∀ S, S < 2 ^ n → goods S = nI (cls f n S)) → Q kn best first many cert poss goods s1 s2 s3) :
    ∀ (d k : Nat) (goods : Nat → Int32), k + d = n → (∀ S, S < 2 ^ n → goods S = nI (cls f k S)) → wp_X9_knows_h263 now Q (d + 1) (nI n) (nI k) kn best first many cert poss goods s1 s2 s3 := by
  have hn := hb.1
  intro d
  induction d with
  | zero =>
    intro k goods hk hg
    have : k = n := by omega
    subst this
    simp only [wp_X9_knows_h263]
    exact bLE k k rfl rfl (by omega) (by omega) (fun _ => hQ goods hg) (fun e => by omega)
  | succ d ih =>
    intro k goods hk hg
    simp only [wp_X9_knows_h263]
    refine bLE n k rfl rfl (by omega) (by omega) (fun e => by omega) (fun _ => ?_)
    refine ⟨2 ^ n + 1, ?_⟩
    refine m_pass hb f hf (k := k) (by omega) (fun goods hg => ih (k + 1) goods (by omega) hg) (2 ^ n) 0 goods (by omega) (fun S hS => ?_)
    rw [if_neg (by omega)]
    exact hg S hS
end
