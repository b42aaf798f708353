/-! ===== the first of the best in the reference ===== -/
theorem fc_lt (h : HS) : ∀ (r k : Nat) (q : SG), fc h r k q < 3 ^ r
  | 0, _, _ => by show 0 < 1; omega
  | r + 1, k, q => by
    have e3 : 3 ^ (r + 1) = 3 ^ r + (3 ^ r + 3 ^ r) := by rw [Nat.pow_succ]; omega
    have hd := fc_lt h r (k + 1) q
    have k0 : ∀ c, c < 3 ^ r → c < 3 ^ (r + 1) := fun c hc => by rw [e3]; omega
    have k1 : ∀ c, c < 3 ^ r → 3 ^ r + c < 3 ^ (r + 1) := fun c hc => by rw [e3]; omega
    have k2 : ∀ c, c < 3 ^ r → 3 ^ r + 3 ^ r + c < 3 ^ (r + 1) := fun c hc => by rw [e3]; omega
    rw [fc_succ]
    cases e0 : stp h q k 0 with
    | none =>
      dsimp only
      cases e1 : stp h q k 1 with
      | none => exact k2 _ hd
      | some f1 =>
        have h1 := fc_lt h r (k + 1) (some (k, f1))
        dsimp only
        split
        · exact k1 _ h1
        · exact k2 _ hd
    | some f0 =>
      have h0 := fc_lt h r (k + 1) (some (k, f0))
      dsimp only
      split
      · exact k0 _ h0
      · cases e1 : stp h q k 1 with
        | none => exact k2 _ hd
        | some f1 =>
          have h1 := fc_lt h r (k + 1) (some (k, f1))
          dsimp only
          split
          · exact k1 _ h1
          · exact k2 _ hd
theorem fc_nx (h : HS) {n x k : Nat} (hk : k < n) : fc h (n - k) k (sgm h x) = (nx h n x k).1 * 3 ^ (n - (k + 1)) + fc h (n - (k + 1)) (k + 1) (sgm h (nx h n x k).2) := by
  have hnk : n - k = (n - (k + 1)) + 1 := by omega
  have hs : ∀ s t, s < 2 → stt h (sgm h x) k s = some t → sgm h (ix k s t) = some (k, ct h k s + t * hWrap h) := by
    intro s t hs e
    have := stt_le e
    exact sgm_ix h hs (by omega)
  have hsn : ∀ s, stt h (sgm h x) k s = none → stp h (sgm h x) k s = none := by
    intro s e; unfold stp; rw [e]; rfl
  unfold nx tk
  rw [hnk, fc_succ]
  cases e0 : stt h (sgm h x) k 0 with
  | none =>
    rw [hsn 0 e0]
    dsimp only
    cases e1 : stt h (sgm h x) k 1 with
    | none =>
      rw [hsn 1 e1]
      dsimp only
      rw [Nat.two_mul]
    | some t1 =>
      rw [stp_of_stt e1]
      dsimp only
      by_cases c1 : (GG h (n - (k + 1)) (k + 1) (some (k, ct h k 1 + t1 * hWrap h))).1 + gd h k 1 = (GG h (n - (k + 1) + 1) k (sgm h x)).1
      · rw [if_pos c1, if_pos c1]
        dsimp only
        rw [hs 1 t1 (by decide) e1, Nat.one_mul]
      · rw [if_neg c1, if_neg c1]
        dsimp only
        rw [Nat.two_mul]
  | some t0 =>
    rw [stp_of_stt e0]
    dsimp only
    by_cases c0 : (GG h (n - (k + 1)) (k + 1) (some (k, ct h k 0 + t0 * hWrap h))).1 + gd h k 0 = (GG h (n - (k + 1) + 1) k (sgm h x)).1
    · rw [if_pos c0, if_pos c0]
      dsimp only
      rw [hs 0 t0 (by decide) e0, Nat.zero_mul, Nat.zero_add]
    · rw [if_neg c0, if_neg c0]
      dsimp only
      cases e1 : stt h (sgm h x) k 1 with
      | none =>
        rw [hsn 1 e1]
        dsimp only
        rw [Nat.two_mul]
      | some t1 =>
        rw [stp_of_stt e1]
        dsimp only
        by_cases c1 : (GG h (n - (k + 1)) (k + 1) (some (k, ct h k 1 + t1 * hWrap h))).1 + gd h k 1 = (GG h (n - (k + 1) + 1) k (sgm h x)).1
        · rw [if_pos c1, if_pos c1]
          dsimp only
          rw [hs 1 t1 (by decide) e1, Nat.one_mul]
        · rw [if_neg c1, if_neg c1]
          dsimp only
          rw [Nat.two_mul]
theorem pd_lt (h : HS) (n k : Nat) : pd h n k < 3 := by
  unfold pd nx
  split
  · show 0 < 3; decide
  · split
    · show 1 < 3; decide
    · show 2 < 3; decide
theorem fc_px (h : HS) (n : Nat) : ∀ (k : Nat), k ≤ n → fc h n 0 none % 3 ^ (n - k) = fc h (n - k) k (sgm h (px h n k))
  | 0, _ => Nat.mod_eq_of_lt (fc_lt h n 0 none)
  | k + 1, hk => by
    have e3 : 3 ^ (n - k) = 3 ^ (n - (k + 1)) * 3 := by rw [← Nat.pow_succ]; congr 1; omega
    have ih := fc_px h n k (by omega)
    have hn := fc_nx h (x := px h n k) (show k < n by omega)
    rw [hn] at ih
    have h2 : fc h n 0 none % 3 ^ (n - (k + 1)) = fc h n 0 none % 3 ^ (n - k) % 3 ^ (n - (k + 1)) := by rw [e3, Nat.mod_mul_right_mod]
    rw [h2, ih, Nat.add_comm, Nat.add_mul_mod_self_right]
    exact Nat.mod_eq_of_lt (fc_lt h _ _ _)
theorem dg_px (h : HS) {n k : Nat} (hk : k < n) : dg n (fc h n 0 none) k = pd h n k := by
  have e3 : 3 ^ (n - k) = 3 ^ (n - (k + 1)) * 3 := by rw [← Nat.pow_succ]; congr 1; omega
  have h1 := fc_px h n k (by omega)
  rw [fc_nx h hk] at h1
  unfold dg
  rw [show n - 1 - k = n - (k + 1) by omega, ← Nat.mod_mul_right_div_self, ← e3, h1, Nat.add_comm, Nat.add_mul_div_right _ _ (p3 _), Nat.div_eq_of_lt (fc_lt h _ _ _), Nat.zero_add]
  rfl
/-- how many bits -/
def pb (T : Nat) : Nat := (List.range 10).foldl (fun a i => if T.testBit i then a + 1 else a) 0
theorem pb_kern : ∀ T, T < 1024 → T ≠ 0 → pb (T &&& (T - 1)) + 1 = pb T ∧ T &&& (T - 1) < T := by decide +kernel
theorem pb_or : ∀ k, k < 10 → ∀ T, T < 1024 → T < 2 ^ k → pb (T ||| 2 ^ k) = pb T + 1 := by decide +kernel
theorem fw_px {h : HS} {n : Nat} (hb : HB h n) : ∀ (k : Nat), k ≤ n → ∃ g T, fw h n (fc h n 0 none) k = some (sgm h (px h n k), g, T) ∧ T < 2 ^ k ∧ pb T = kc h n k
  | 0, _ => ⟨0, 0, rfl, by decide, show pb 0 = 0 by decide⟩
  | k + 1, hk => by
    have hn := hb.1
    obtain ⟨g, T, e1, e2, e3⟩ := fw_px hb k (by omega)
    have hp : 2 ^ (k + 1) = 2 ^ k + 2 ^ k := by rw [Nat.pow_succ]; omega
    have hp10 : 2 ^ k ≤ 1024 := p2_le (by omega)
    have hfw1 : fw h n (fc h n 0 none) (k + 1) = if pd h n k = 2 then some (sgm h (px h n k), g, T) else match stp h (sgm h (px h n k)) k (pd h n k) with
      | none => none
      | some f => some (some (k, f), g + gd h k (pd h n k), T ||| 2 ^ k) := by
      conv => lhs; unfold fw
      rw [e1, dg_px h (by omega)]
      rfl
    rcases nx_cases h (n := n) (x := px h n k) (show k < n by omega) with ⟨s, t, hs, e4, e5, -⟩ | ⟨e4, -⟩
    · have hpd : pd h n k = s := by show (nx h n (px h n k) k).1 = s; rw [e4]
      have hpx : px h n (k + 1) = ix k s t := by show (nx h n (px h n k) k).2 = _; rw [e4]
      have ht := stt_le e5
      have hkc : kc h n (k + 1) = kc h n k + 1 := by show (if pd h n k = 2 then _ else _) = _; rw [if_neg (by omega)]
      rw [hpd, if_neg (by omega), stp_of_stt e5] at hfw1
      refine ⟨g + gd h k s, T ||| 2 ^ k, ?_, Nat.or_lt_two_pow (by omega) (by omega), ?_⟩
      · rw [hfw1, hpx, sgm_ix h hs (by omega)]
      · rw [pb_or k (by omega) T (by omega) e2, e3, hkc]
    · have hpd : pd h n k = 2 := by show (nx h n (px h n k) k).1 = 2; rw [e4]
      have hpx : px h n (k + 1) = px h n k := by show (nx h n (px h n k) k).2 = _; rw [e4]
      have hkc : kc h n (k + 1) = kc h n k := by show (if pd h n k = 2 then _ else _) = _; rw [if_pos hpd]
      rw [if_pos hpd] at hfw1
      exact ⟨g, T, by rw [hfw1, hpx], by omega, by rw [e3, hkc]⟩
section
variable {h : HS} {n : Nat} {now : Nat → Int32}
theorem m_bits {T : Nat} (hT : T < 1024) {Q : Int32 → Prop} (hQ : Q (nI (pb T))) : wp_X9_bits (nI T) Q := by
  have hpb : ∀ T, T < 1024 → pb T ≤ 1024 := by decide +kernel
  have hloop : ∀ (m c T : Nat), T < 1024 → T < m → c ≤ 100000 → c + pb T ≤ 100000 → Q (nI (c + pb T)) → wp_X9_bits_h4 Q m (nI c) (nI T) := by
    intro m
    induction m with
    | zero => intro c T _ h2; omega
    | succ m ih =>
      intro c T h1 h2 h3 h4 h5
      rw [wp_X9_bits_h4]
      dsimp only
      refine bEQ T 0 rfl rfl (by omega) (by decide) (fun q => ?_) (fun q => ?_)
      · subst q
        have : pb 0 = 0 := by decide
        rw [this, Nat.add_zero] at h5
        exact h5
      · intro x hx y hy
        obtain ⟨k1, k2⟩ := pb_kern T h1 q
        have hx' : x = nI (c + 1) := by rw [hx]; exact nI_1 c
        have hy' : y = nI (T &&& (T - 1)) := by rw [hy, nI_subL (by omega), nI_and (by omega) (by omega)]
        subst hx' hy'
        refine ih (c + 1) _ (by omega) (by omega) (by omega) (by omega) ?_
        rw [show c + 1 + pb (T &&& (T - 1)) = c + pb T by omega]
        exact h5
  have := hpb T hT
  exact ⟨T + 1, hloop (T + 1) 0 T hT (by omega) (by omega) (by omega) (by rw [Nat.zero_add]; exact hQ)⟩
theorem m_how (hb : HB h n) (hm : HM h n now) {k : Nat} (hk : k < n) {Q : Int32 → Prop} (hQ : Q (nI (pd h n k))) : wp_X9_how now (nI (fc h n 0 none)) (nI k) Q := by
  have hn := hb.1
  have hf := fc_lt h n 0 none
  have hp := p3_le hn
  unfold wp_X9_how
  have e0 : now (0 : Int32).toNatClampNeg = nI n := hm.1
  rw [e0, nI_subL (by omega), nI_subN (by omega)]
  refine m_power (by omega) ?_
  have hpp := p3 (n - 1 - k)
  have hpl := p3_le (e := n - 1 - k) (by omega)
  refine ⟨nI_ne0 hpp (by omega), ?_⟩
  have hdl := Nat.div_le_self (fc h n 0 none) (3 ^ (n - 1 - k))
  rw [pk_div (by omega) hpp (by omega)]
  have := pk_rem (a := fc h n 0 none / 3 ^ (n - 1 - k)) (d := 3) (by omega) (by decide) (by decide)
  have e3 : (3 : Int32) = nI 3 := rfl
  rw [e3, this]
  have hd := dg_px h hk
  unfold dg at hd
  rw [hd]
  exact hQ
theorem sgm_lt {h : HS} {n k : Nat} (hk : k ≤ n) : ∀ i f, sgm h (px h n k) = some (i, f) → i < k := by
  intro i f e
  obtain ⟨g, hrx, -⟩ := px_rx h n k hk
  have := (RX_x k _ g hrx).1
  unfold sgm at e
  split at e
  · cases e
  · cases e
    unfold XV at this
    omega
/-- FAR in the first -/
def aFar (h : HS) (n k : Nat) : Int32 := if pd h n k = 2 then -9 else LF (sgm h (px h n (k + 1)))
theorem m_farOf (hb : HB h n) (hm : HM h n now) {k : Nat} (hk : k < n) {s1 s2 s3 : Int32} {Q : Int32 → Int32 → Int32 → Int32 → Prop} (hQ : ∀ a b c, Q (aFar h n k) a b c) : wp_X9_farOf now (nI (fc h n 0 none)) s1 s2 s3 (nI k) Q := by
  have hn := hb.1
  unfold wp_X9_farOf
  rw [show nI k + (1 : Int32) = nI (k + 1) from nI_1 k]
  obtain ⟨g, T, e1, e2, e3⟩ := fw_px hb (k + 1) (by omega)
  refine m_goodOf hb hm (fc_lt h n 0 none) (by omega) (fun q g' T' e => ?_) (fun e => by rw [e1] at e; cases e)
  rw [e1] at e
  cases e
  unfold wp_X9_farOf_b29
  unfold aFar at hQ
  rcases nx_cases h (n := n) (x := px h n k) hk with ⟨s, t, hs, e4, e5, -⟩ | ⟨e4, -⟩
  · have hpd : pd h n k = s := by show (nx h n (px h n k) k).1 = s; rw [e4]
    have hpx : px h n (k + 1) = ix k s t := by show (nx h n (px h n k) k).2 = _; rw [e4]
    have ht := stt_le e5
    rw [if_neg (by omega)] at hQ
    have hlk : LK (sgm h (px h n (k + 1))) = nI k := by rw [hpx, sgm_ix h hs (by omega)]; rfl
    exact ⟨fun q => absurd hlk q, fun _ => hQ _ _ _⟩
  · have hpd : pd h n k = 2 := by show (nx h n (px h n k) k).1 = 2; rw [e4]
    have hpx : px h n (k + 1) = px h n k := by show (nx h n (px h n k) k).2 = _; rw [e4]
    rw [if_pos hpd] at hQ
    refine ⟨fun _ => hQ _ _ _, fun q => ?_⟩
    exfalso
    rw [hpx] at q
    cases hq : sgm h (px h n k) with
    | none => rw [hq] at q; exact nI_ne9 (n := k) (by omega) q.symm
    | some v =>
      obtain ⟨i, f⟩ := v
      have hi := sgm_lt (show k ≤ n by omega) i f hq
      rw [hq] at q
      have q2 : nI i = nI k := q
      rw [nI_eq (by omega) (by omega)] at q2
      omega
theorem m_reasonOf (hb : HB h n) (hm : HM h n now) {k : Nat} (hk : k < n) {s1 s2 s3 : Int32} {Q : Int32 → Int32 → Int32 → Int32 → Prop} (hQ : ∀ a b c, Q (nI (if pd h n k = 2 then rsn h (sgm h (px h n k)) k else 0)) a b c) : wp_X9_reasonOf now (nI (fc h n 0 none)) s1 s2 s3 (nI k) Q := by
  have hn := hb.1
  have hpl := pd_lt h n k
  unfold wp_X9_reasonOf
  refine m_how hb hm hk ?_
  refine bEQ (pd h n k) 2 rfl rfl (by omega) (by decide) (fun e => ?_) (fun e => ?_)
  · rw [if_pos e] at hQ
    obtain ⟨g, T, e1, e2, e3⟩ := fw_px hb k (by omega)
    refine m_goodOf hb hm (fc_lt h n 0 none) (by omega) (fun q g' T' e => ?_) (fun e => by rw [e1] at e; cases e)
    rw [e1] at e
    cases e
    unfold rsn at hQ
    have hok := (fw_ok hb k _ _ _ (by omega) e1).1
    cases hq : sgm h (px h n k) with
    | none =>
      rw [hq] at hQ
      exact ⟨fun q => absurd rfl q, fun _ => hQ _ _ _⟩
    | some v =>
      obtain ⟨i, f⟩ := v
      obtain ⟨hi, hfl⟩ := hok i f hq
      rw [hq] at hQ
      dsimp only at hQ
      refine ⟨fun _ => ?_, fun q => absurd q (nI_ne9 (n := i) (by omega))⟩
      refine m_farBehind hb hm hk (s := 0) (by decide) (f := f) (by omega) ?_
      unfold wp_X9_reasonOf_b98
      cases htr : trn (ct h k 0) f (hWrap h) with
      | none =>
        rw [htr] at hQ
        exact ⟨fun q => absurd rfl q, fun _ => hQ _ _ _⟩
      | some t =>
        rw [htr] at hQ
        dsimp only at hQ ⊢
        have htl : t ≤ 3 := by
          unfold trn at htr
          repeat' split at htr
          all_goals cases htr
          all_goals omega
        have hcl := ct_le (s := 0) hb hk
        have htw : t * hWrap h ≤ 3 * 9999 := Nat.mul_le_mul htl hb.2.2.1
        refine ⟨fun _ => ?_, fun q => absurd q (nI_ne9 (by omega))⟩
        have e3j : (3 : Int32) + nI k = nI (3 + k) := nI_add 3 k
        have e3i : (3 : Int32) + LK (some (i, f)) = nI (3 + i) := nI_add 3 i
        rw [e3j, e3i, nI_cl (by omega), nI_cl (by omega), (hm.2.2.2 k hk).1, (hm.2.2.2 i (by omega)).1]
        refine ⟨vin (by omega) (by decide), vin (by omega) (by decide), ?_⟩
        intro y hy
        have hbd := rate_bd hb hk (show i < n by omega)
        have hy' : (now (1 : Int32).toNatClampNeg) * y = zI ((hRate h : Int) * ((hDay h k : Int) - (hDay h i : Int))) := by
          rw [hy, show now (1 : Int32).toNatClampNeg = nI (hRate h) from hm.2.1, zI_nI, zI_nI, zI_nI, zI_sub, zI_mul]
        have hk' : nI (ct h k 0 + t * hWrap h) - LF (some (i, f)) = zI (((ct h k 0 + t * hWrap h : Nat) : Int) - (f : Int)) := by
          show nI _ - nI f = _
          rw [zI_nI, zI_nI, zI_sub]
        refine cLE _ _ hk' hy' (by omega) (by omega) (fun er => ?_) (fun er => ?_)
        · rw [if_neg (by unfold raceb; rw [decide_eq_true_eq]; omega)] at hQ
          exact hQ _ _ _
        · rw [if_pos (by unfold raceb; exact decide_eq_true er)] at hQ
          exact hQ _ _ _
  · rw [if_neg e] at hQ
    exact hQ _ _ _
theorem m_keptOf (hb : HB h n) (hm : HM h n now) {s1 s2 s3 : Int32} {Q : Int32 → Int32 → Int32 → Int32 → Prop} (hQ : ∀ a b c, Q (nI (kc h n n)) a b c) : wp_X9_keptOf now s1 s2 s3 (nI (fc h n 0 none)) Q := by
  have hn := hb.1
  unfold wp_X9_keptOf
  rw [show now (0 : Int32).toNatClampNeg = nI n from hm.1]
  obtain ⟨g, T, e1, e2, e3⟩ := fw_px hb n (Nat.le_refl n)
  refine m_goodOf hb hm (fc_lt h n 0 none) (Nat.le_refl n) (fun q g' T' e => ?_) (fun e => by rw [e1] at e; cases e)
  rw [e1] at e
  cases e
  have hp10 : 2 ^ n ≤ 1024 := p2_le hn
  refine m_bits (by omega) ?_
  rw [e3]
  exact hQ _ _ _
end
