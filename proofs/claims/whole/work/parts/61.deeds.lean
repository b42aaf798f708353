/-! ===== deeds: adds, strikes, rules, undo, keep, back ===== -/
def BADS (p1 p2 p3 : Int32) : Prop := (p1 < 0 ∨ 999 < p1) ∨ (p2 < 0 ∨ 9999 < p2) ∨ (p3 < 1 ∨ 9 < p3)
def AH (h : HS) (n : Nat) (p1 p2 p3 : Int32) : HS := hIns h (pos h n p1.toNatClampNeg) p1.toNatClampNeg p2.toNatClampNeg p3.toNatClampNeg
theorem AH_nI (h : HS) (n : Nat) {d c w : Nat} (hd : d ≤ 999) (hc : c ≤ 9999) (hw : w ≤ 9) : AH h n (nI d) (nI c) (nI w) = hIns h (pos h n d) d c w := by
  unfold AH
  rw [nI_cl (by omega), nI_cl (by omega), nI_cl (by omega)]
theorem HB_AH {h : HS} {n : Nat} {p1 p2 p3 : Int32} (hb : HB h n) (hn : n < 10) (hg : ¬ BADS p1 p2 p3) : HB (AH h n p1 p2 p3) (n + 1) := by
  obtain ⟨d, hd, rfl⟩ := between (n := 999) rfl (fun c => hg (Or.inl (Or.inl c))) (fun c => hg (Or.inl (Or.inr c)))
  obtain ⟨c, hc, rfl⟩ := between (n := 9999) rfl (fun c => hg (Or.inr (Or.inl (Or.inl c)))) (fun c => hg (Or.inr (Or.inl (Or.inr c))))
  obtain ⟨w, hw, rfl⟩ := between1 (n := 9) (lo := 1) rfl (by decide) (fun c => hg (Or.inr (Or.inr (Or.inl c)))) (fun c => hg (Or.inr (Or.inr (Or.inr c))))
  rw [AH_nI h n hd hc hw]
  exact HB_ins hb hn (pos_le h n d) hd hc hw
section
variable {h : HS} {n : Nat} {rate wrap : Int32} {days firsts seconds : Nat → Int32} {sd sf sg U r : Nat → Int32} {w : Nat → Int64} {e an fs rs : Nat → Int32} {kp s1 s2 kn : Int32} {E : Nat → HS × Nat} {a m : Nat} {R W S : Nat → Int32} {D F G : Nat → Nat → Int32}
theorem x_adds (hb : HB h n) (hc : HC h n rate wrap (nI n) days firsts seconds) (h0 : sg 0 = nI 0) (ha : a < 10) (hm : m ≤ 10) (hq : QC E a m R W S D F G) {p1 p2 p3 : Int32} {Q : Int32 → (Nat → Int32) → (Nat → Int32) → (Nat → Int32) → Int32 → Int32 → Int32 → (Nat → Int32) → (Nat → Int32) → (Nat → Int32) → (Nat → Nat → Int32) → (Nat → Nat → Int32) → (Nat → Nat → Int32) → (Nat → Int32) → (Nat → Int32) → (Nat → Int32) → (Nat → Int32) → (Nat → Int32) → (Nat → Int64) → (Nat → Int32) → (Nat → Int32) → (Nat → Int32) → (Nat → Int32) → Int32 → Int32 → Int32 → Int32 → Prop}
    (hbad : BADS p1 p2 p3 → Q (-1) days firsts seconds (nI n) (nI m) (nI a) R W S D F G sd sf sg U r w e an fs rs kp s1 s2 kn)
    (hfull : ¬ BADS p1 p2 p3 → n = 10 → Q (-3) days firsts seconds (nI n) (nI m) (nI a) R W S D F G sd sf sg U r w e an fs rs kp s1 s2 kn)
    (hok : ¬ BADS p1 p2 p3 → n < 10 → ∀ D' F' G' R W S D F G sd sf sg U r w e an fs rs kp s1 s2, HC (AH h n p1 p2 p3) (n + 1) rate wrap (nI (n + 1)) D' F' G' → QC (eup E a (h, n)) (a1 a) (mp m) R W S D F G → SO (AH h n p1 p2 p3) (n + 1) sd sf sg U r w e an fs rs kp s1 s2 → Q (nI (pos h n p1.toNatClampNeg)) D' F' G' (nI (n + 1)) (nI (mp m)) (nI (a1 a)) R W S D F G sd sf sg U r w e an fs rs kp s1 s2 0) :
    wp_X8_adds rate wrap days firsts seconds (nI n) (nI m) (nI a) R W S D F G sd sf sg U r w e an fs rs kp s1 s2 kn p1 p2 p3 Q := by
  have hn := hb.1
  unfold wp_X8_adds wp_X8_adds_b28
  refine x_isDay (fun a1' a2 => ⟨fun q => absurd q (by decide), fun _ => ?_⟩) (fun q => ⟨fun _ => hbad (Or.inl q), fun q => absurd rfl q⟩)
  refine x_within (fun b1 b2 => ⟨fun q => absurd q (by decide), fun _ => ?_⟩) (fun q => ⟨fun _ => hbad (Or.inr (Or.inl q)), fun q => absurd rfl q⟩)
  refine x_within (fun c1 c2 => ⟨fun _ => ?_, fun q => absurd q (by decide)⟩) (fun q => ⟨fun q => absurd rfl q, fun _ => hbad (Or.inr (Or.inr q))⟩)
  have hg : ¬ BADS p1 p2 p3 := by
    rintro ((c | c) | (c | c) | (c | c))
    · exact a1' c
    · exact a2 c
    · exact b1 c
    · exact b2 c
    · exact c1 c
    · exact c2 c
  have hbn := fun hn => HB_AH hb hn hg
  refine x_isFull (by decide) (by omega) (fun q => ⟨fun q => absurd q (by decide), fun _ => hfull hg (by omega)⟩) (fun hn10 => ⟨fun _ => ?_, fun q => absurd rfl q⟩)
  refine x_remember hn hc ha hm hq (fun R W S D F G hq' => ?_)
  obtain ⟨d, hd, rfl⟩ := between (n := 999) rfl a1' a2
  obtain ⟨c, hcc, rfl⟩ := between (n := 9999) rfl b1 b2
  obtain ⟨w', hw, rfl⟩ := between1 (n := 9) (lo := 1) rfl (by decide) c1 c2
  refine x_hinsert hn10 hc (fun D' F' G' hc' => ?_)
  rw [← AH_nI h n hd hcc hw] at hc'
  refine x_repair (hbn hn10) hc' h0 (fun sd sf sg U r w e an fs rs kp s1 s2 hS => ?_)
  have := hok hg hn10 D' F' G' R W S D F G sd sf sg U r w e an fs rs kp s1 s2 hc' hq' hS
  rw [nI_cl (by omega)] at this
  exact this
theorem x_strikes (hb : HB h n) (hc : HC h n rate wrap (nI n) days firsts seconds) (h0 : sg 0 = nI 0) (ha : a < 10) (hm : m ≤ 10) (hq : QC E a m R W S D F G) {p1 : Int32} {Q : Int32 → (Nat → Int32) → (Nat → Int32) → (Nat → Int32) → Int32 → Int32 → Int32 → (Nat → Int32) → (Nat → Int32) → (Nat → Int32) → (Nat → Nat → Int32) → (Nat → Nat → Int32) → (Nat → Nat → Int32) → (Nat → Int32) → (Nat → Int32) → (Nat → Int32) → (Nat → Int32) → (Nat → Int32) → (Nat → Int64) → (Nat → Int32) → (Nat → Int32) → (Nat → Int32) → (Nat → Int32) → Int32 → Int32 → Int32 → Int32 → Prop}
    (hbad : (p1 < 0 ∨ nI n ≤ p1) → Q (-1) days firsts seconds (nI n) (nI m) (nI a) R W S D F G sd sf sg U r w e an fs rs kp s1 s2 kn)
    (hok : ∀ k, k < n → p1 = nI k → ∀ D' F' G' R W S D F G sd sf sg U r w e an fs rs kp s1 s2, HC (hRem h k) (n - 1) rate wrap (nI (n - 1)) D' F' G' → QC (eup E a (h, n)) (a1 a) (mp m) R W S D F G → SO (hRem h k) (n - 1) sd sf sg U r w e an fs rs kp s1 s2 → Q (nI (n - 1)) D' F' G' (nI (n - 1)) (nI (mp m)) (nI (a1 a)) R W S D F G sd sf sg U r w e an fs rs kp s1 s2 0) :
    wp_X8_strikes rate wrap days firsts seconds (nI n) (nI m) (nI a) R W S D F G sd sf sg U r w e an fs rs kp s1 s2 kn p1 Q := by
  have hn := hb.1
  unfold wp_X8_strikes
  refine x_has (fun q1 q2 => ⟨fun _ => ?_, fun q => absurd q (by decide)⟩) (fun q => ⟨fun q => absurd rfl q, fun _ => hbad q⟩)
  obtain ⟨k, hk, rfl⟩ := below (by omega) q1 q2
  refine x_remember hn hc ha hm hq (fun R W S D F G hq' => ?_)
  refine x_hremove hn hk hc (fun D' F' G' hc' => ?_)
  refine x_repair (HB_rem hb hk) hc' h0 (fun sd sf sg U r w e an fs rs kp s1 s2 hS => ?_)
  exact hok k hk rfl D' F' G' R W S D F G sd sf sg U r w e an fs rs kp s1 s2 hc' hq' hS
def BADR (p1 p2 : Int32) : Prop := (p1 < 1 ∨ 99 < p1) ∨ ¬ WR p2
theorem RU_nI {p1 p2 : Int32} (hg : ¬ BADR p1 p2) : ∃ r w, r ≤ 99 ∧ w ≤ 9999 ∧ p1 = nI r ∧ p2 = nI w := by
  obtain ⟨r, hr, e1⟩ := between1 (p := p1) (n := 99) (lo := 1) rfl (by decide) (fun c => hg (Or.inl (Or.inl c))) (fun c => hg (Or.inl (Or.inr c)))
  obtain ⟨w, hw, e2⟩ := WR_nI (p := p2) (Classical.byContradiction (fun c => hg (Or.inr c)))
  exact ⟨r, w, hr, hw, e1, e2⟩
theorem x_rules (hb : HB h n) (hc : HC h n rate wrap (nI n) days firsts seconds) (h0 : sg 0 = nI 0) (ha : a < 10) (hm : m ≤ 10) (hq : QC E a m R W S D F G) {p1 p2 : Int32} {Q : Int32 → Int32 → Int32 → Int32 → Int32 → (Nat → Int32) → (Nat → Int32) → (Nat → Int32) → (Nat → Nat → Int32) → (Nat → Nat → Int32) → (Nat → Nat → Int32) → (Nat → Int32) → (Nat → Int32) → (Nat → Int32) → (Nat → Int32) → (Nat → Int32) → (Nat → Int64) → (Nat → Int32) → (Nat → Int32) → (Nat → Int32) → (Nat → Int32) → Int32 → Int32 → Int32 → Int32 → Prop}
    (hbad : BADR p1 p2 → Q (-1) rate wrap (nI m) (nI a) R W S D F G sd sf sg U r w e an fs rs kp s1 s2 kn)
    (hok : ¬ BADR p1 p2 → ∀ rr ww, rr ≤ 99 → ww ≤ 9999 → p1 = nI rr → p2 = nI ww → ∀ R W S D F G sd sf sg U r w e an fs rs kp s1 s2, HC (hRul h rr ww) n p1 p2 (nI n) days firsts seconds → QC (eup E a (h, n)) (a1 a) (mp m) R W S D F G → SO (hRul h rr ww) n sd sf sg U r w e an fs rs kp s1 s2 → Q (nI (GG (hRul h rr ww) n 0 none).1) p1 p2 (nI (mp m)) (nI (a1 a)) R W S D F G sd sf sg U r w e an fs rs kp s1 s2 0) :
    wp_X8_rules days firsts seconds (nI n) rate wrap (nI m) (nI a) R W S D F G sd sf sg U r w e an fs rs kp s1 s2 kn p1 p2 Q := by
  have hn := hb.1
  unfold wp_X8_rules wp_X8_rules_b17
  refine x_within (fun a1' a2 => ⟨fun q => absurd q (by decide), fun _ => ?_⟩) (fun q => ⟨fun _ => hbad (Or.inl q), fun q => absurd rfl q⟩)
  refine x_isWrap (fun hw => ⟨fun _ => ?_, fun q => absurd q (by decide)⟩) (fun q => ⟨fun q => absurd rfl q, fun _ => hbad (Or.inr q)⟩)
  have hg : ¬ BADR p1 p2 := by
    rintro ((c | c) | c)
    · exact a1' c
    · exact a2 c
    · exact c hw
  obtain ⟨rr, ww, hr, hww, e1, e2⟩ := RU_nI hg
  refine x_remember hn hc ha hm hq (fun R W S D F G hq' => ?_)
  have hc' : HC (hRul h rr ww) n p1 p2 (nI n) days firsts seconds := ⟨rfl, e1, e2, hc.2.2.2⟩
  refine x_repair (HB_rul hb hr hww) hc' h0 (fun sd sf sg U r w e an fs rs kp s1 s2 hS => ?_)
  unfold wp_X5_bestGood
  have := hok hg rr ww hr hww e1 e2 R W S D F G sd sf sg U r w e an fs rs kp s1 s2 hc' hq' hS
  rw [show r (0 : Int32).toNatClampNeg = nI (GG (hRul h rr ww) n 0 none).1 from hS.2.1]
  exact this
theorem x_undo {size : Int32} (hc : HC h n rate wrap size days firsts seconds) (h0 : sg 0 = nI 0) (ha : a < 10) (hm : m ≤ 10) (hq : QC E a m R W S D F G) (hqb : QB E a m) {Q : Int32 → Int32 → Int32 → (Nat → Int32) → (Nat → Int32) → (Nat → Int32) → Int32 → Int32 → Int32 → (Nat → Int32) → (Nat → Int32) → (Nat → Int32) → (Nat → Int32) → (Nat → Int32) → (Nat → Int64) → (Nat → Int32) → (Nat → Int32) → (Nat → Int32) → (Nat → Int32) → Int32 → Int32 → Int32 → Int32 → Prop}
    (hst : m = 0 → Q (-2) rate wrap days firsts seconds size (nI m) (nI a) sd sf sg U r w e an fs rs kp s1 s2 kn)
    (hok : 0 < m → ∀ rate wrap D' F' G' sd sf sg U r w e an fs rs kp s1 s2, HC (E ((a + 9) % 10)).1 (E ((a + 9) % 10)).2 rate wrap (nI (E ((a + 9) % 10)).2) D' F' G' → SO (E ((a + 9) % 10)).1 (E ((a + 9) % 10)).2 sd sf sg U r w e an fs rs kp s1 s2 → Q (nI (m - 1)) rate wrap D' F' G' (nI (E ((a + 9) % 10)).2) (nI (m - 1)) (nI ((a + 9) % 10)) sd sf sg U r w e an fs rs kp s1 s2 0) :
    wp_X8_undo R W S D F G rate wrap days firsts seconds size (nI m) (nI a) sd sf sg U r w e an fs rs kp s1 s2 kn Q := by
  unfold wp_X8_undo
  refine bNE m 0 rfl rfl (by omega) (by decide) (fun q => ?_) (fun q => hst q)
  have hm0 : 0 < m := by omega
  unfold wp_X3_recall
  refine bNE m 0 rfl rfl (by omega) (by decide) (fun _ => ?_) (fun q2 => absurd q2 q)
  have hE := hq 0 hm0
  have hB := hqb 0 hm0
  rw [Nat.sub_zero] at hE hB
  have hgo : ∀ k0 : Int32, k0 = nI ((a + 9) % 10) → wp_X3_recall_b27 R W S D F G (fun q_size_21_1 q_next_21_2 h_rate_21_3 h_wrap_21_4 e_days_21_5 e_firsts_21_6 e_seconds_21_7 e_size_21_8 =>
      wp_X8_repairAnew h_rate_21_3 h_wrap_21_4 e_days_21_5 e_firsts_21_6 e_seconds_21_7 e_size_21_8 sd sf sg U r w e an fs rs kp s1 s2 kn (fun s_days_25_9 s_fars_25_10 s_goods_25_11 r_until_25_12 r_rest_25_13 r_ways_25_14 r_inEach_25_15 r_inAny_25_16 r_firsts_25_17 r_reasons_25_18 r_keptInFirst_25_19 r_swapAt_25_20 r_swapGood_25_21 l_known_25_22 =>
        Q q_size_21_1 h_rate_21_3 h_wrap_21_4 e_days_21_5 e_firsts_21_6 e_seconds_21_7 e_size_21_8 q_size_21_1 q_next_21_2 s_days_25_9 s_fars_25_10 s_goods_25_11 r_until_25_12 r_rest_25_13 r_ways_25_14 r_inEach_25_15 r_inAny_25_16 r_firsts_25_17 r_reasons_25_18 r_keptInFirst_25_19 r_swapAt_25_20 r_swapGood_25_21 l_known_25_22)) k0 (nI m) (nI a) rate wrap days firsts seconds size := by
    intro k0 hk0
    subst hk0
    have he : (a + 9) % 10 < 10 := Nat.mod_lt _ (by decide)
    unfold wp_X3_recall_b27
    intro y hy
    rw [nI_subL (by omega)] at hy
    subst hy
    refine ⟨vin he (by decide), ?_⟩
    rw [nI_cl (by omega)]
    refine x_hcopy hB.1 hE (fun D' F' G' hc' => ?_)
    refine x_repair hB hc' h0 (fun sd sf sg U r w e an fs rs kp s1 s2 hS => ?_)
    exact hok hm0 _ _ D' F' G' sd sf sg U r w e an fs rs kp s1 s2 hc' hS
  refine bLE a 0 rfl rfl (by omega) (by decide) (fun q2 => hgo _ ?_) (fun q2 => hgo _ ?_)
  · have : a = 0 := by omega
    subst this; rfl
  · rw [nI_subL (by omega), show (a + 9) % 10 = a - 1 by omega]
theorem QC_un (hm0 : 0 < m) (ha : a < 10) (hm : m ≤ 10) (hq : QC E a m R W S D F G) : QC E ((a + 9) % 10) (m - 1) R W S D F G := by
  intro j hj
  have := hq (j + 1) (by omega)
  rw [show ((a + 9) % 10 + 9 - j) % 10 = (a + 9 - (j + 1)) % 10 by omega]
  exact this
theorem QB_un (hm0 : 0 < m) (ha : a < 10) (hm : m ≤ 10) (hq : QB E a m) : QB E ((a + 9) % 10) (m - 1) := by
  intro j hj
  have := hq (j + 1) (by omega)
  rw [show ((a + 9) % 10 + 9 - j) % 10 = (a + 9 - (j + 1)) % 10 by omega]
  exact this
theorem QM_un {undos : Nat → Int32} (hm0 : 0 < m) (ha : a < 10) (hm : m ≤ 10) (hq : QM E a m undos) : QM E ((a + 9) % 10) (m - 1) undos := by
  intro j hj
  have := hq (j + 1) (by omega)
  rw [show ((a + 9) % 10 + 9 - j) % 10 = (a + 9 - (j + 1)) % 10 by omega]
  exact this
/-- images -/
def iup (I : Nat → Option (HS × Nat)) (a : Nat) (x : HS × Nat) (e : Nat) : Option (HS × Nat) := if e = a then some x else I e
def IC (I : Nat → Option (HS × Nat)) (xk R W S : Nat → Int32) (D F G : Nat → Nat → Int32) : Prop := ∀ e, e < 2 → (I e = none ∧ xk e = 0) ∨ ∃ x, I e = some x ∧ xk e = 1 ∧ HC x.1 x.2 (R e) (W e) (S e) (D e) (F e) (G e)
def IM (I : Nat → Option (HS × Nat)) (ik kept : Nat → Int32) : Prop := ∀ e, e < 2 → (I e = none ∧ ik e = 0) ∨ ∃ x, I e = some x ∧ ik e = 1 ∧ HM x.1 x.2 (fun i => kept (33 * e + i))
def IB (I : Nat → Option (HS × Nat)) : Prop := ∀ e, e < 2 → ∀ x, I e = some x → HB x.1 x.2
theorem x_keep (hn : n ≤ 10) (hc : HC h n rate wrap (nI n) days firsts seconds) {I : Nat → Option (HS × Nat)} {xk : Nat → Int32} (hi : IC I xk R W S D F G) {p1 : Int32} {Q : Int32 → (Nat → Int32) → (Nat → Int32) → (Nat → Int32) → (Nat → Int32) → (Nat → Nat → Int32) → (Nat → Nat → Int32) → (Nat → Nat → Int32) → Prop}
    (hbad : (p1 < 0 ∨ 1 < p1) → Q (-1) xk R W S D F G) (hok : ∀ k, k < 2 → p1 = nI k → ∀ xk R W S D F G, IC (iup I k (h, n)) xk R W S D F G → Q (nI n) xk R W S D F G) : wp_X8_keep rate wrap days firsts seconds (nI n) xk R W S D F G p1 Q := by
  unfold wp_X8_keep
  refine x_within (fun q1 q2 => ⟨fun _ => ?_, fun q => absurd q (by decide)⟩) (fun q => ⟨fun q => absurd rfl q, fun _ => hbad q⟩)
  obtain ⟨k, hk, rfl⟩ := between (n := 1) rfl q1 q2
  rw [nI_cl (by omega)]
  refine ⟨vin (by omega) (by decide), ?_⟩
  refine x_hcopy hn hc (fun D' F' G' hc' => ?_)
  refine ⟨vin (by omega) (by decide), ?_⟩
  refine hok k (by omega) rfl _ _ _ _ _ _ _ (fun e he => ?_)
  by_cases c : e = k
  · subst c
    refine Or.inr ⟨(h, n), if_pos rfl, ?_, ?_⟩
    · rw [upd_s, nar_b1]
    · rw [va_s, va_s, va_s, va_s, va_s, va_s]; exact hc'
  · unfold iup
    rw [if_neg c, upd_n c, va_n c, va_n c, va_n c, va_n c, va_n c, va_n c]
    exact hi e he
theorem x_back {size : Int32} (hc : HC h n rate wrap size days firsts seconds) (h0 : sg 0 = nI 0) {I : Nat → Option (HS × Nat)} {xk : Nat → Int32} (hi : IC I xk R W S D F G) (hib : IB I) {p1 qs : Int32} {Q : Int32 → Int32 → Int32 → (Nat → Int32) → (Nat → Int32) → (Nat → Int32) → Int32 → Int32 → (Nat → Int32) → (Nat → Int32) → (Nat → Int32) → (Nat → Int32) → (Nat → Int32) → (Nat → Int64) → (Nat → Int32) → (Nat → Int32) → (Nat → Int32) → (Nat → Int32) → Int32 → Int32 → Int32 → Int32 → Prop}
    (hbad : (p1 < 0 ∨ 1 < p1) → Q (-1) rate wrap days firsts seconds size qs sd sf sg U r w e an fs rs kp s1 s2 kn)
    (hst : ∀ k, k < 2 → p1 = nI k → I k = none → Q (-2) rate wrap days firsts seconds size qs sd sf sg U r w e an fs rs kp s1 s2 kn)
    (hok : ∀ k x, k < 2 → p1 = nI k → I k = some x → ∀ rate wrap D' F' G' sd sf sg U r w e an fs rs kp s1 s2, HC x.1 x.2 rate wrap (nI x.2) D' F' G' → SO x.1 x.2 sd sf sg U r w e an fs rs kp s1 s2 → Q (nI x.2) rate wrap D' F' G' (nI x.2) 0 sd sf sg U r w e an fs rs kp s1 s2 0) :
    wp_X8_back xk R W S D F G rate wrap days firsts seconds size qs sd sf sg U r w e an fs rs kp s1 s2 kn p1 Q := by
  unfold wp_X8_back
  refine x_within (fun q1 q2 => ⟨fun _ => ?_, fun q => absurd q (by decide)⟩) (fun q => ⟨fun q => absurd rfl q, fun _ => hbad q⟩)
  obtain ⟨k, hk, rfl⟩ := between (n := 1) rfl q1 q2
  rw [nI_cl (by omega)]
  refine ⟨vin (by omega) (by decide), ?_⟩
  rcases hi k (by omega) with ⟨c1, c2⟩ | ⟨x, c1, c2, c3⟩
  · rw [c2]
    exact ⟨fun q => absurd rfl q, fun _ => hst k (by omega) rfl c1⟩
  · rw [c2]
    refine ⟨fun _ => ⟨vin (by omega) (by decide), ?_⟩, fun q => absurd q (by decide)⟩
    have hB := hib k (by omega) x c1
    refine x_hcopy hB.1 c3 (fun D' F' G' hc' => ?_)
    unfold wp_X3_forget
    refine x_repair hB hc' h0 (fun sd sf sg U r w e an fs rs kp s1 s2 hS => ?_)
    exact hok k x (by omega) rfl c1 _ _ D' F' G' sd sf sg U r w e an fs rs kp s1 s2 hc' hS
end
