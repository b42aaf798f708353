theorem m1 : (-1 : Int32) = zI (-1) := rfl
theorem nI_nle1 {n : Nat} (h : n < 2147483648) : ¬ nI n ≤ (-1 : Int32) := by
  rw [m1, zI_nI, zI_le (by omega) (by omega) (by omega) (by omega)]; omega
section
variable {h : HS} {n : Nat} {now : Nat → Int32} {Q : Int32 → Int32 → Int32 → Int64 → Int32 → Int32 → (Nat → Int32) → Int32 → Int32 → Int32 → Prop}
theorem m_codes (hb : HB h n) (hm : HM h n now) {kn : Int32}
    (hQ : ∀ (best first : Int32) (many : Int64) (cert poss : Int32) (goods : Nat → Int32) (s1 s2 s3 : Int32), MI (vm h n) (3 ^ n) best first many cert poss → (∀ S, S < 2 ^ n → goods S = nI (cls (gx (vm h n) (3 ^ n)) n S)) → Q kn best first many cert poss goods s1 s2 s3) :
    ∀ (d N : Nat) (best first : Int32) (many : Int64) (cert poss : Int32) (goods : Nat → Int32) (s1 s2 s3 : Int32), N + d = 3 ^ n → MI (vm h n) N best first many cert poss → (∀ T, T < 2 ^ n → goods T = nI (gx (vm h n) N T)) → wp_X9_knows_h49 now Q (d + 1) (nI n) (nI N) kn best first many cert poss goods s1 s2 s3 := by
  have hn := hb.1
  have hp3 := p3_le hn
  have hp2 := p2_le hn
  intro d
  induction d with
  | zero =>
    intro N best first many cert poss goods s1 s2 s3 hN hMI hg
    have : N = 3 ^ n := by omega
    subst this
    simp only [wp_X9_knows_h49]
    refine m_power hn ?_
    refine bLE (3 ^ n) (3 ^ n) rfl rfl (by omega) (by omega) (fun _ => ?_) (fun e => by omega)
    exact ⟨n + 1, m_passes hb _ (gx_le hb (3 ^ n)) (fun goods hg => hQ _ _ _ _ _ goods _ _ _ hMI hg) n 0 goods (by omega) hg⟩
  | succ d ih =>
    intro N best first many cert poss goods s1 s2 s3 hN hMI hg
    simp only [wp_X9_knows_h49]
    refine m_power hn ?_
    refine bLE (3 ^ n) N rfl rfl (by omega) (by omega) (fun e => by omega) (fun _ => ?_)
    refine m_goodOf hb hm (c := N) (u := n) (by omega) (Nat.le_refl n) (fun q g T e => ?_) (fun e s1 s2 s3 => ?_)
    · have hv : vm h n N = some (g, T) := by unfold vm; rw [e]; rfl
      obtain ⟨hg180, hT2⟩ := vm_ok hb hv
      refine ⟨fun e9 => absurd e9 (nI_ne9 (by omega)), fun _ => ?_⟩
      have htail : ∀ (best first : Int32) (many : Int64) (cert poss : Int32), MI (vm h n) (N + 1) best first many cert poss → wp_X9_knows_b220 now Q (fun y0 y1 y2 y3 y4 y5 y6 y7 y8 y9 y10 y11 => wp_X9_knows_h49 now Q (d + 1) y0 y1 y2 y3 y4 y5 y6 y7 y8 y9 y10 y11) (nI n) (nI N) (nI g) kn best first many cert poss goods (nI T) (LK q) (LF q) := by
        intro best first many cert poss hMI
        have hend : ∀ w : Int32, w = nI (max (gx (vm h n) N T) g) → wp_X9_knows_b254 now Q (fun y0 y1 y2 y3 y4 y5 y6 y7 y8 y9 y10 y11 => wp_X9_knows_h49 now Q (d + 1) y0 y1 y2 y3 y4 y5 y6 y7 y8 y9 y10 y11) w (nI T) (nI n) (nI N) kn best first many cert poss goods (nI T) (LK q) (LF q) := by
          intro w hw
          unfold wp_X9_knows_b254 wp_X9_knows_b255
          refine ⟨vin (by omega) (by decide), ?_⟩
          intro y hy
          have hy' : y = nI (N + 1) := by rw [hy]; exact nI_1 N
          subst hy'
          rw [nI_cl (by omega)]
          refine ih (N + 1) _ _ _ _ _ _ _ _ _ (by omega) hMI (fun S hS => ?_)
          unfold gx
          rw [hv]
          dsimp only
          by_cases e : S = T
          · subst e; rw [upd_s, if_pos rfl, hw]
          · rw [upd_n e, if_neg e]; exact hg S hS
        unfold wp_X9_knows_b220
        have hgl := gx_le hb N T
        rw [nI_cl (by omega), hg T hT2]
        refine ⟨vin (by omega) (by decide), ?_⟩
        refine bLE g (gx (vm h n) N T) rfl rfl (by omega) (by omega) (fun e => ⟨vin (by omega) (by decide), hend _ ?_⟩) (fun e => hend _ ?_)
        · congr 1; omega
        · congr 1; omega
      have haf1 : af (vm h n) (N + 1) = oc (af (vm h n) N) (some (g, 1, T, T)) := by
        show oc _ _ = _
        rw [hv]; rfl
      have hff1 : ff (vm h n) (N + 1) = fl (af (vm h n) N) (ff (vm h n) N) (some (g, 1, T, T)) N := by
        show fl _ _ _ _ = _
        rw [hv]; rfl
      have hmore : ∀ (mb : Int32), (af (vm h n) N = none ∨ ∃ x, af (vm h n) N = some x ∧ x.1 < g) → wp_X9_knows_b83 now Q (fun y0 y1 y2 y3 y4 y5 y6 y7 y8 y9 y10 y11 => wp_X9_knows_h49 now Q (d + 1) y0 y1 y2 y3 y4 y5 y6 y7 y8 y9 y10 y11) 1 (nI n) (nI N) (nI g) kn mb first many cert poss goods (nI T) (LK q) (LF q) := by
        intro mb hc
        unfold wp_X9_knows_b83
        refine ⟨fun e => absurd e (by decide), fun _ => ?_⟩
        unfold wp_X9_knows_b99
        refine ⟨fun e => absurd e (by decide), fun _ => ?_⟩
        unfold wp_X9_knows_b116
        refine ⟨fun e => absurd e (by decide), fun _ => ?_⟩
        unfold wp_X9_knows_b136
        refine ⟨fun e => absurd e (by decide), fun _ => ?_⟩
        unfold wp_X9_knows_b156
        refine ⟨fun e => absurd e (by decide), fun _ => ?_⟩
        unfold wp_X9_knows_b173
        refine ⟨fun e => absurd rfl e, fun _ => ?_⟩
        intro y1 hy1 y2 hy2 y3 hy3
        have hy1' : y1 = lN 1 := hy1
        have hy2' : y2 = nI T := by rw [hy2, nI_and (by omega) (by omega), Nat.and_self]
        have hy3' : y3 = nI T := by rw [hy3, nI_or (by omega) (by omega), Nat.or_self]
        refine htail _ _ _ _ _ ?_
        unfold MI
        rw [haf1, hff1]
        rcases hc with hc | ⟨x, hc, hx⟩
        · rw [hc]
          exact ⟨rfl, rfl, hy1', hy2', hy3'⟩
        · rw [hc, oc_ss, ac_lt (y := (g, 1, T, T)) hx, fl_pos (y := (g, 1, T, T)) hx]
          exact ⟨rfl, rfl, hy1', hy2', hy3'⟩
      unfold MI at hMI
      cases ha : af (vm h n) N with
      | none =>
        rw [ha] at hMI
        dsimp only at hMI
        subst hMI
        exact ⟨fun e9 => absurd e9 (nI_nle1 (by omega)), fun _ => hmore _ (Or.inl ha)⟩
      | some x =>
        rw [ha] at hMI
        dsimp only at hMI
        obtain ⟨i1, i2, i3, i4, i5⟩ := hMI
        obtain ⟨b1, b2, b3, b4⟩ := af_ok hb N x ha
        refine bLE g x.1 rfl i1 (by omega) (by omega) (fun hle => ?_) (fun hgt => hmore _ (Or.inr ⟨x, ha, hgt⟩))
        unfold wp_X9_knows_b83
        refine ⟨fun _ => ?_, fun e => absurd rfl e⟩
        unfold wp_X9_knows_b99
        refine ⟨fun _ => ?_, fun e => absurd rfl e⟩
        unfold wp_X9_knows_b116
        refine ⟨fun _ => ?_, fun e => absurd rfl e⟩
        unfold wp_X9_knows_b136
        refine ⟨fun _ => ?_, fun e => absurd rfl e⟩
        unfold wp_X9_knows_b156
        refine ⟨fun _ => ?_, fun e => absurd rfl e⟩
        unfold wp_X9_knows_b173
        refine bNE g x.1 rfl i1 (by omega) (by omega) (fun hne => ?_) (fun heq => ?_)
        · refine htail _ _ _ _ _ ?_
          unfold MI
          rw [haf1, hff1, ha, oc_ss, ac_gt (y := (g, 1, T, T)) (show g < x.1 by omega), fl_neg (y := (g, 1, T, T)) (show ¬ x.1 < g by omega)]
          exact ⟨i1, i2, i3, i4, i5⟩
        · intro y1 hy1 y2 hy2 y3 hy3
          refine htail _ _ _ _ _ ?_
          unfold MI
          rw [haf1, hff1, ha, oc_ss, ac_eq (y := (g, 1, T, T)) (show x.1 = g by omega), fl_neg (y := (g, 1, T, T)) (show ¬ x.1 < g by omega)]
          refine ⟨i1, i2, ?_, ?_, ?_⟩
          · rw [hy1, i3]; exact lN_1 _
          · rw [hy2, i4, nI_and (by omega) (by omega)]
          · rw [hy3, i5, nI_or (by omega) (by omega)]
    · have hv : vm h n N = none := by unfold vm; rw [e]; rfl
      refine ⟨fun _ => ?_, fun e9 => absurd rfl e9⟩
      unfold wp_X9_knows_b255
      intro y hy
      have hy' : y = nI (N + 1) := by rw [hy]; exact nI_1 N
      subst hy'
      refine ih (N + 1) _ _ _ _ _ _ _ _ _ (by omega) ?_ (fun S hS => ?_)
      · have haf1 : af (vm h n) (N + 1) = af (vm h n) N := by
          show oc _ _ = _
          rw [hv]; exact oc_none_r _
        have hff1 : ff (vm h n) (N + 1) = ff (vm h n) N := by
          show fl _ _ _ _ = _
          rw [hv]; exact fl_none _ _ _
        unfold MI at hMI ⊢
        rw [haf1, hff1]
        exact hMI
      · unfold gx
        rw [hv]
        exact hg S hS
theorem m_zero (hb : HB h n) {kn best first : Int32} {many : Int64} {cert poss s1 s2 s3 : Int32}
    (hQ : ∀ goods : Nat → Int32, (∀ S, S < 2 ^ n → goods S = 0) → ∃ m, wp_X9_knows_h49 now Q m (nI n) 0 kn best first many cert poss goods s1 s2 s3) :
    ∀ (d s : Nat) (goods : Nat → Int32), s + d = 2 ^ n → (∀ S, S < s → goods S = 0) → wp_X9_knows_h27 now Q (d + 1) (nI n) (nI s) kn best first many cert poss goods s1 s2 s3 := by
  have hn := hb.1
  have hp := p2_le hn
  intro d
  induction d with
  | zero =>
    intro s goods hs hg
    rw [wp_X9_knows_h27]
    dsimp only
    rw [shl1 n (by omega)]
    exact bLE (2 ^ n) s rfl rfl (by omega) (by omega) (fun _ => hQ goods (fun S hS => hg S (by omega))) (fun e => by omega)
  | succ d ih =>
    intro s goods hs hg
    rw [wp_X9_knows_h27]
    dsimp only
    rw [shl1 n (by omega)]
    refine bLE (2 ^ n) s rfl rfl (by omega) (by omega) (fun e => by omega) (fun _ => ⟨vin (by omega) (by decide), ?_⟩)
    intro y hy
    have hy' : y = nI (s + 1) := by rw [hy]; exact nI_1 s
    subst hy'
    rw [nI_cl (by omega)]
    refine ih (s + 1) (upd goods s 0) (by omega) (fun S hS => ?_)
    by_cases e : S = s
    · subst e; exact upd_s _ _ _
    · rw [upd_n e]; exact hg S (by omega)
/-- what the reference knows of a house, once it knows -/
def KN (h : HS) (n : Nat) (best first : Int32) (many : Int64) (cert poss : Int32) (goods : Nat → Int32) : Prop :=
  best = nI (GG h n 0 none).1 ∧ first = nI (fc h n 0 none) ∧ many = lN (GG h n 0 none).2.1 ∧ cert = nI (GG h n 0 none).2.2.1 ∧ poss = nI (GG h n 0 none).2.2.2 ∧ ∀ S, S < 2 ^ n → goods S = nI (cls (gx (vm h n) (3 ^ n)) n S)
theorem m_knows (hb : HB h n) (hm : HM h n now) {kn best first : Int32} {many : Int64} {cert poss s1 s2 s3 : Int32} {goods : Nat → Int32} (hk : kn = 0 ∨ (kn = 1 ∧ KN h n best first many cert poss goods))
    (hQ : ∀ (best first : Int32) (many : Int64) (cert poss : Int32) (goods : Nat → Int32) (s1 s2 s3 : Int32), KN h n best first many cert poss goods → Q 1 best first many cert poss goods s1 s2 s3) : wp_X9_knows now kn best first many cert poss goods s1 s2 s3 Q := by
  unfold wp_X9_knows
  rcases hk with hk | ⟨hk, hK⟩
  · subst hk
    refine ⟨fun _ => ?_, fun e => absurd rfl e⟩
    intro x hx
    have hx' : x = nI n := by rw [hx]; exact hm.1
    subst hx'
    refine ⟨2 ^ n + 1, m_zero hb (fun goods hg => ?_) (2 ^ n) 0 goods (by omega) (fun S hS => absurd hS (Nat.not_lt_zero S))⟩
    refine ⟨3 ^ n + 1, m_codes hb hm (fun best first many cert poss goods s1 s2 s3 hMI hg => ?_) (3 ^ n) 0 _ _ _ _ _ _ _ _ _ (by omega) rfl hg⟩
    refine hQ _ _ _ _ _ _ _ _ _ ?_
    have h1 : af (vm h n) (3 ^ n) = some (GG h n 0 none) := by rw [af_congr (3 ^ n) (fun c hc => vm_sv h hc)]; exact af_sv h n 0 none
    have h2 : ff (vm h n) (3 ^ n) = fc h n 0 none := by rw [ff_congr (3 ^ n) (fun c hc => vm_sv h hc)]; exact ff_sv h n 0 none
    unfold MI at hMI
    rw [h1, h2] at hMI
    exact ⟨hMI.1, hMI.2.1, hMI.2.2.1, hMI.2.2.2.1, hMI.2.2.2.2, hg⟩
  · subst hk
    exact ⟨fun e => absurd e (by decide), fun _ => hQ _ _ _ _ _ _ _ _ _ hK⟩
end
