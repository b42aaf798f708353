/-! ===== deeds in the reference ===== -/
theorem lt_pred {n : Nat} (hn : n < 2147483648) {p : Int32} : nI n - 1 < p ↔ nI n ≤ p := by
  have e : nI n - 1 = zI ((n : Int) - 1) := by rw [zI_nI n]; exact zI_sub n 1
  rw [e, Int32.lt_iff_toInt_lt, Int32.le_iff_toInt_le, nI_toInt hn, zI_toInt (by omega) (by omega)]
  omega
section
variable {h : HS} {n : Nat} {now : Nat → Int32} {E : Nat → HS × Nat} {a m : Nat} {undos : Nat → Int32} {kn : Int32}
theorem m_isReading (hn : n ≤ 10) (hm : HM h n now) {p : Int32} {Q : Int32 → Prop} (h1 : ¬ p < 0 → ¬ nI n ≤ p → Q 1) (h0 : (p < 0 ∨ nI n ≤ p) → Q 0) : wp_X9_isReading now p Q := by
  unfold wp_X9_isReading
  rw [show now (0 : Int32).toNatClampNeg = nI n from hm.1]
  refine m_in (fun a b => ⟨Or.inr rfl, h1 a (fun c => b ((lt_pred (by omega)).mpr c))⟩) (fun a => ⟨Or.inl rfl, h0 ?_⟩)
  rcases a with a | a
  · exact Or.inl a
  · exact Or.inr ((lt_pred (by omega)).mp a)
theorem m_adds (hb : HB h n) (hM : HM h n now) (ha : a < 10) (hm : m ≤ 10) (hq : QM E a m undos) (hqb : QB E a m) {p1 p2 p3 : Int32} {Q : Int32 → (Nat → Int32) → Int32 → Int32 → (Nat → Int32) → Int32 → Prop}
    (hbad : BADS p1 p2 p3 → Q (-1) now (nI m) (nI a) undos kn) (hfull : ¬ BADS p1 p2 p3 → n = 10 → Q (-3) now (nI m) (nI a) undos kn)
    (hok : ¬ BADS p1 p2 p3 → n < 10 → ∀ now undos, HM (AH h n p1 p2 p3) (n + 1) now → QM (eup E a (h, n)) (a1 a) (mp m) undos → Q (nI (pos h n p1.toNatClampNeg)) now (nI (mp m)) (nI (a1 a)) undos 0) : wp_X9_adds now (nI m) (nI a) undos kn p1 p2 p3 Q := by
  have hn := hb.1
  unfold wp_X9_adds wp_X9_adds_b32
  refine m_in (fun a1' a2 => ⟨fun q => absurd q (by decide), fun _ => ?_⟩) (fun q => ⟨fun _ => hbad (Or.inl q), fun q => absurd rfl q⟩)
  refine m_in (fun b1 b2 => ⟨fun q => absurd q (by decide), fun _ => ?_⟩) (fun q => ⟨fun _ => hbad (Or.inr (Or.inl q)), fun q => absurd rfl q⟩)
  refine m_in (fun c1 c2 => ⟨fun _ => ?_, fun q => absurd q (by decide)⟩) (fun q => ⟨fun q => absurd rfl q, fun _ => hbad (Or.inr (Or.inr q))⟩)
  have hg : ¬ BADS p1 p2 p3 := by
    rintro ((c | c) | (c | c) | (c | c))
    · exact a1' c
    · exact a2 c
    · exact b1 c
    · exact b2 c
    · exact c1 c
    · exact c2 c
  rw [show now (0 : Int32).toNatClampNeg = nI n from hM.1]
  refine bNE n 10 rfl rfl (by omega) (by decide) (fun q => ?_) (fun q => hfull hg q)
  refine m_remember hM hn ha hm hq hqb (fun undos hq' => ?_)
  obtain ⟨d, hd, rfl⟩ := between (n := 999) rfl a1' a2
  obtain ⟨c, hcc, rfl⟩ := between (n := 9999) rfl b1 b2
  obtain ⟨w', hw, rfl⟩ := between1 (n := 9) (lo := 1) rfl (by decide) c1 c2
  refine m_hcomes (by omega) hM (fun now' hM' => ?_)
  rw [← AH_nI h n hd hcc hw] at hM'
  have := hok hg (by omega) now' undos hM' hq'
  rw [nI_cl (by omega)] at this
  exact this
theorem m_strikes (hb : HB h n) (hM : HM h n now) (ha : a < 10) (hm : m ≤ 10) (hq : QM E a m undos) (hqb : QB E a m) {p1 : Int32} {Q : Int32 → (Nat → Int32) → Int32 → Int32 → (Nat → Int32) → Int32 → Prop}
    (hbad : (p1 < 0 ∨ nI n ≤ p1) → Q (-1) now (nI m) (nI a) undos kn)
    (hok : ∀ k, k < n → p1 = nI k → ∀ now undos, HM (hRem h k) (n - 1) now → QM (eup E a (h, n)) (a1 a) (mp m) undos → Q (nI (n - 1)) now (nI (mp m)) (nI (a1 a)) undos 0) : wp_X9_strikes now (nI m) (nI a) undos kn p1 Q := by
  have hn := hb.1
  unfold wp_X9_strikes
  refine m_isReading hn hM (fun q1 q2 => ⟨fun _ => ?_, fun q => absurd q (by decide)⟩) (fun q => ⟨fun q => absurd rfl q, fun _ => hbad q⟩)
  obtain ⟨k, hk, rfl⟩ := below (by omega) q1 q2
  refine m_remember hM hn ha hm hq hqb (fun undos hq' => ?_)
  intro y hy
  have e0 : (0 : Int32).toNatClampNeg = 0 := rfl
  obtain ⟨c1, c2, c3, c4⟩ := hM
  have hy' : y = nI (n - 1) := by rw [hy, e0, c1, nI_subL (by omega)]
  subst hy'
  rw [e0]
  have hloop : ∀ (d i : Nat) (r : Nat → Int32), i + d = n - 1 → k ≤ i → r 0 = nI (n - 1) → r 1 = now 1 → r 2 = now 2 → (∀ j, j < i → r (3 + j) = nI (rem (hDay h) k j) ∧ r (13 + j) = nI (rem (hCnt h) k j) ∧ r (23 + j) = nI (rem (hWor h) k j)) → (∀ j, i ≤ j → j < n → r (3 + j) = nI (hDay h j) ∧ r (13 + j) = nI (hCnt h j) ∧ r (23 + j) = nI (hWor h j)) → wp_X9_strikes_h26 Q (d + 1) (nI i) r (nI (mp m)) (nI (a1 a)) undos 0 := by
    intro d
    induction d with
    | zero =>
      intro i r hi hki r0 r1 r2 i1 i2
      rw [wp_X9_strikes_h26]
      dsimp only
      rw [e0, r0]
      refine bLE (n - 1) i rfl rfl (by omega) (by omega) (fun _ => ?_) (fun q => by omega)
      exact hok k hk rfl r undos ⟨r0, by rw [r1]; exact c2, by rw [r2]; exact c3, fun j hj => i1 j (by omega)⟩ hq'
    | succ d ih =>
      intro i r hi hki r0 r1 r2 i1 i2
      obtain ⟨e1, e2, e3⟩ := i2 (i + 1) (by omega) (by omega)
      rw [wp_X9_strikes_h26]
      dsimp only
      rw [e0, r0]
      refine bLE (n - 1) i rfl rfl (by omega) (by omega) (fun q => by omega) (fun _ => ?_)
      rw [nI_Ladd, nI_Ladd, nI_Ladd, nI_addL, nI_addL, nI_addL, nI_cl (show 3 + i < 2147483648 by omega), nI_cl (show 13 + i < 2147483648 by omega), nI_cl (show 23 + i < 2147483648 by omega), nI_cl (show 3 + i + 1 < 2147483648 by omega), nI_cl (show 13 + i + 1 < 2147483648 by omega), nI_cl (show 23 + i + 1 < 2147483648 by omega)]
      refine ⟨vin (by omega) (by decide), ?_⟩
      intro y1 hy1
      refine ⟨vin (by omega) (by decide), vin (by omega) (by decide), ?_⟩
      intro y2 hy2
      refine ⟨vin (by omega) (by decide), vin (by omega) (by decide), ?_⟩
      intro y3 hy3
      refine ⟨vin (by omega) (by decide), ?_⟩
      intro z hz
      rw [nI_1] at hz
      subst hz
      have hy1' : y1 = nI (hDay h (i + 1)) := by rw [hy1]; exact e1
      have hy2' : y2 = nI (hCnt h (i + 1)) := by
        rw [hy2]
        show upd r (3 + i) y1 (13 + (i + 1)) = _
        rw [upd_n (by omega)]; exact e2
      have hy3' : y3 = nI (hWor h (i + 1)) := by
        rw [hy3]
        show upd (upd r (3 + i) y1) (13 + i) y2 (23 + (i + 1)) = _
        rw [upd_n (by omega), upd_n (by omega)]; exact e3
      refine ih (i + 1) _ (by omega) (by omega) ?_ ?_ ?_ (fun j hj => ?_) (fun j h1 h2 => ?_)
      · rw [upd_n (by omega), upd_n (by omega), upd_n (by omega)]; exact r0
      · rw [upd_n (by omega), upd_n (by omega), upd_n (by omega)]; exact r1
      · rw [upd_n (by omega), upd_n (by omega), upd_n (by omega)]; exact r2
      · by_cases c : j = i
        · subst c
          rw [upd_n (by omega), upd_n (by omega), upd_s, upd_n (by omega), upd_s, upd_s]
          unfold rem
          rw [if_neg (by omega), if_neg (by omega), if_neg (by omega)]
          exact ⟨hy1', hy2', hy3'⟩
        · rw [upd_n (by omega), upd_n (by omega), upd_n (by omega), upd_n (by omega), upd_n (by omega), upd_n (by omega), upd_n (by omega), upd_n (by omega), upd_n (by omega)]
          exact i1 j (by omega)
      · rw [upd_n (by omega), upd_n (by omega), upd_n (by omega), upd_n (by omega), upd_n (by omega), upd_n (by omega), upd_n (by omega), upd_n (by omega), upd_n (by omega)]
        exact i2 j (by omega) h2
  refine ⟨n - 1 - k + 1, hloop (n - 1 - k) k _ (by omega) (Nat.le_refl _) (upd_s _ _ _) (upd_n (by omega)) (upd_n (by omega)) (fun j hj => ?_) (fun j h1 h2 => ?_)⟩
  · rw [upd_n (by omega), upd_n (by omega), upd_n (by omega)]
    unfold rem
    rw [if_pos hj, if_pos hj, if_pos hj]
    exact c4 j (by omega)
  · rw [upd_n (by omega), upd_n (by omega), upd_n (by omega)]
    exact c4 j h2
theorem m_rules (hb : HB h n) (hM : HM h n now) (ha : a < 10) (hm : m ≤ 10) (hq : QM E a m undos) (hqb : QB E a m) {best first : Int32} {many : Int64} {cert poss : Int32} {goods : Nat → Int32} {s1 s2 s3 : Int32} {p1 p2 : Int32} {Q : Int32 → (Nat → Int32) → Int32 → Int32 → (Nat → Int32) → Int32 → Int32 → Int32 → Int64 → Int32 → Int32 → (Nat → Int32) → Int32 → Int32 → Int32 → Prop}
    (hbad : BADR p1 p2 → Q (-1) now (nI m) (nI a) undos kn best first many cert poss goods s1 s2 s3)
    (hok : ¬ BADR p1 p2 → ∀ rr ww, rr ≤ 99 → ww ≤ 9999 → p1 = nI rr → p2 = nI ww → ∀ now undos best first many cert poss goods s1 s2 s3, HM (hRul h rr ww) n now → QM (eup E a (h, n)) (a1 a) (mp m) undos → KN (hRul h rr ww) n best first many cert poss goods → Q (nI (GG (hRul h rr ww) n 0 none).1) now (nI (mp m)) (nI (a1 a)) undos 1 best first many cert poss goods s1 s2 s3) : wp_X9_rules now (nI m) (nI a) undos kn best first many cert poss goods s1 s2 s3 p1 p2 Q := by
  have hn := hb.1
  unfold wp_X9_rules wp_X9_rules_b17
  refine m_in (fun a1' a2 => ⟨fun q => absurd q (by decide), fun _ => ?_⟩) (fun q => ⟨fun _ => hbad (Or.inl q), fun q => absurd rfl q⟩)
  refine m_isWrap (fun hw => ⟨fun _ => ?_, fun q => absurd q (by decide)⟩) (fun q => ⟨fun q => absurd rfl q, fun _ => hbad (Or.inr q)⟩)
  have hg : ¬ BADR p1 p2 := by
    rintro ((c | c) | c)
    · exact a1' c
    · exact a2 c
    · exact c hw
  obtain ⟨rr, ww, hr, hww, e1, e2⟩ := RU_nI hg
  refine m_remember hM hn ha hm hq hqb (fun undos hq' => ?_)
  have hM' : HM (hRul h rr ww) n (upd (upd now 1 p1) 2 p2) := by
    obtain ⟨c1, c2, c3, c4⟩ := hM
    refine ⟨?_, ?_, ?_, fun k hk => ⟨?_, ?_, ?_⟩⟩
    · rw [upd_n (by decide), upd_n (by decide)]; exact c1
    · rw [upd_n (by decide), upd_s]; exact e1
    · rw [upd_s]; exact e2
    · rw [upd_n (by omega), upd_n (by omega)]; exact (c4 k hk).1
    · rw [upd_n (by omega), upd_n (by omega)]; exact (c4 k hk).2.1
    · rw [upd_n (by omega), upd_n (by omega)]; exact (c4 k hk).2.2
  refine m_knows (HB_rul hb hr hww) hM' (Or.inl rfl) (fun best first many cert poss goods s1 s2 s3 hK => ?_)
  have := hok hg rr ww hr hww e1 e2 _ undos best first many cert poss goods s1 s2 s3 hM' hq' hK
  rw [← hK.1] at this
  exact this
theorem m_undo (ha : a < 10) (hm : m ≤ 10) (hq : QM E a m undos) (hqb : QB E a m) {Q : Int32 → (Nat → Int32) → Int32 → Int32 → Int32 → Prop}
    (hst : m = 0 → Q (-2) now (nI m) (nI a) kn)
    (hok : 0 < m → ∀ now, HM (E ((a + 9) % 10)).1 (E ((a + 9) % 10)).2 now → Q (nI (m - 1)) now (nI (m - 1)) (nI ((a + 9) % 10)) 0) : wp_X9_undo undos now (nI m) (nI a) kn Q := by
  unfold wp_X9_undo
  refine bNE m 0 rfl rfl (by omega) (by decide) (fun q => ?_) (fun q => hst q)
  have hm0 : 0 < m := by omega
  intro y1 hy1 y2 hy2
  rw [nI_addL, nI_subL (show 1 ≤ a + 10 by omega)] at hy1
  have hy1' : y1 = nI ((a + 9) % 10) := by
    rw [hy1]
    exact pk_rem (a := a + 10 - 1) (d := 10) (by omega) (by decide) (by decide)
  rw [nI_subL (by omega)] at hy2
  subst hy1'; subst hy2
  have hE := hq 0 hm0
  have hB := hqb 0 hm0
  rw [Nat.sub_zero] at hE hB
  have he : (a + 9) % 10 < 10 := Nat.mod_lt _ (by decide)
  generalize (a + 9) % 10 = b at *
  have hloop : ∀ (d i : Nat) (r : Nat → Int32), i + d = 33 → (∀ j, j < i → r j = undos (33 * b + j)) → wp_X9_undo_h38 undos Q (d + 1) (nI i) r (nI (m - 1)) (nI b) kn := by
    intro d
    induction d with
    | zero =>
      intro i r hi i1
      have : i = 33 := by omega
      subst this
      rw [wp_X9_undo_h38]
      refine bLE 33 33 rfl rfl (by decide) (by decide) (fun _ => ?_) (fun q => by omega)
      refine hok hm0 r ?_
      obtain ⟨c1, c2, c3, c4⟩ := hE
      have hn := hB.1
      refine ⟨?_, ?_, ?_, fun k hk => ⟨?_, ?_, ?_⟩⟩
      · rw [i1 0 (by decide)]; exact c1
      · rw [i1 1 (by decide)]; exact c2
      · rw [i1 2 (by decide)]; exact c3
      · rw [i1 (3 + k) (by omega)]; exact (c4 k hk).1
      · rw [i1 (13 + k) (by omega)]; exact (c4 k hk).2.1
      · rw [i1 (23 + k) (by omega)]; exact (c4 k hk).2.2
    | succ d ih =>
      intro i r hi i1
      rw [wp_X9_undo_h38]
      refine bLE 33 i rfl rfl (by decide) (by omega) (fun q => by omega) (fun _ => ?_)
      rw [nI_Lmul, nI_add, nI_cl (show i < 2147483648 by omega), nI_cl (show 33 * b + i < 2147483648 by omega)]
      refine ⟨vin (show 33 * b + i < 330 by omega) (by decide), ?_⟩
      intro y hy
      refine ⟨vin (by omega) (by decide), ?_⟩
      intro z hz
      rw [nI_1] at hz
      subst hz
      refine ih (i + 1) _ (by omega) (fun j hj => ?_)
      by_cases c : j = i
      · subst c; rw [upd_s]; exact hy
      · rw [upd_n c]; exact i1 j (by omega)
  exact ⟨33 + 1, hloop 33 0 now (by omega) (fun j hj => absurd hj (Nat.not_lt_zero j))⟩
theorem m_keep (hn : n ≤ 10) (hM : HM h n now) {I : Nat → Option (HS × Nat)} {ik kept : Nat → Int32} (hi : IM I ik kept) (hib : IB I) {p1 : Int32} {Q : Int32 → (Nat → Int32) → (Nat → Int32) → Prop}
    (hbad : (p1 < 0 ∨ 1 < p1) → Q (-1) ik kept) (hok : ∀ k, k < 2 → p1 = nI k → ∀ ik kept, IM (iup I k (h, n)) ik kept → Q (nI n) ik kept) : wp_X9_keep now ik kept p1 Q := by
  unfold wp_X9_keep
  refine m_in (fun q1 q2 => ⟨fun _ => ?_, fun q => absurd q (by decide)⟩) (fun q => ⟨fun q => absurd rfl q, fun _ => hbad q⟩)
  obtain ⟨a, hk, rfl⟩ := between (n := 1) rfl q1 q2
  rw [nI_cl (by omega)]
  refine ⟨vin (by omega) (by decide), ?_⟩
  have hloop : ∀ (d i : Nat) (u : Nat → Int32), i + d = 33 → (∀ j, j < i → u (33 * a + j) = now j) → (∀ j, (j < 33 * a ∨ 33 * a + 33 ≤ j) → u j = kept j) → wp_X9_keep_h20 now Q (d + 1) (nI a) (nI i) (upd ik a (vp_nar .boolean (1 : Int32))) u := by
    intro d
    induction d with
    | zero =>
      intro i u hi' i1 i2
      have : i = 33 := by omega
      subst this
      rw [wp_X9_keep_h20]
      refine bLE 33 33 rfl rfl (by decide) (by decide) (fun _ => ?_) (fun q => by omega)
      rw [show now (0 : Int32).toNatClampNeg = nI n from hM.1]
      refine hok a (by omega) rfl _ u (fun e he => ?_)
      by_cases c : e = a
      · subst c
        refine Or.inr ⟨(h, n), if_pos rfl, by rw [upd_s, nar_b1], ?_⟩
        obtain ⟨c1, c2, c3, c4⟩ := hM
        refine ⟨?_, ?_, ?_, fun k hk => ⟨?_, ?_, ?_⟩⟩
        · show u (33 * e + 0) = _; rw [i1 0 (by decide)]; exact c1
        · show u (33 * e + 1) = _; rw [i1 1 (by decide)]; exact c2
        · show u (33 * e + 2) = _; rw [i1 2 (by decide)]; exact c3
        · show u (33 * e + (3 + k)) = _; rw [i1 (3 + k) (by dsimp only at hk; omega)]; exact (c4 k hk).1
        · show u (33 * e + (13 + k)) = _; rw [i1 (13 + k) (by dsimp only at hk; omega)]; exact (c4 k hk).2.1
        · show u (33 * e + (23 + k)) = _; rw [i1 (23 + k) (by dsimp only at hk; omega)]; exact (c4 k hk).2.2
      · unfold iup
        rw [if_neg c, upd_n c]
        rcases hi e he with c1 | ⟨x, c1, c2, c3⟩
        · exact Or.inl c1
        · refine Or.inr ⟨x, c1, c2, ?_⟩
          have hB := (hib e he x c1).1
          obtain ⟨d1, d2, d3, d4⟩ := c3
          refine ⟨?_, ?_, ?_, fun k hk => ⟨?_, ?_, ?_⟩⟩
          · show u (33 * e + 0) = _; rw [i2 (33 * e + 0) (by omega)]; exact d1
          · show u (33 * e + 1) = _; rw [i2 (33 * e + 1) (by omega)]; exact d2
          · show u (33 * e + 2) = _; rw [i2 (33 * e + 2) (by omega)]; exact d3
          · show u (33 * e + (3 + k)) = _; rw [i2 (33 * e + (3 + k)) (by omega)]; exact (d4 k hk).1
          · show u (33 * e + (13 + k)) = _; rw [i2 (33 * e + (13 + k)) (by omega)]; exact (d4 k hk).2.1
          · show u (33 * e + (23 + k)) = _; rw [i2 (33 * e + (23 + k)) (by omega)]; exact (d4 k hk).2.2
    | succ d ih =>
      intro i u hi' i1 i2
      rw [wp_X9_keep_h20]
      refine bLE 33 i rfl rfl (by decide) (by omega) (fun q => by omega) (fun _ => ?_)
      rw [nI_Lmul, nI_add, nI_cl (show i < 2147483648 by omega), nI_cl (show 33 * a + i < 2147483648 by omega)]
      refine ⟨vin (by omega) (by decide), ?_⟩
      intro y hy
      refine ⟨vin (show 33 * a + i < 66 by omega) (by decide), ?_⟩
      intro z hz
      rw [nI_1] at hz
      subst hz
      refine ih (i + 1) _ (by omega) (fun j hj => ?_) (fun j hj => ?_)
      · by_cases c : j = i
        · subst c
          show upd u (33 * a + j) y (33 * a + j) = _
          rw [upd_s]; exact hy
        · show upd u (33 * a + i) y (33 * a + j) = _
          rw [upd_n (by omega)]; exact i1 j (by omega)
      · show upd u (33 * a + i) y j = _
        rw [upd_n (by omega)]; exact i2 j hj
  exact ⟨33 + 1, hloop 33 0 kept (by omega) (fun j hj => absurd hj (Nat.not_lt_zero j)) (fun j _ => rfl)⟩
theorem m_back {I : Nat → Option (HS × Nat)} {ik kept : Nat → Int32} (hi : IM I ik kept) (hib : IB I) {p1 um : Int32} {Q : Int32 → (Nat → Int32) → Int32 → Int32 → Prop}
    (hbad : (p1 < 0 ∨ 1 < p1) → Q (-1) now um kn)
    (hst : ∀ k, k < 2 → p1 = nI k → I k = none → Q (-2) now um kn)
    (hok : ∀ k x, k < 2 → p1 = nI k → I k = some x → ∀ now, HM x.1 x.2 now → Q (nI x.2) now 0 0) : wp_X9_back ik kept now um kn p1 Q := by
  unfold wp_X9_back
  refine m_in (fun q1 q2 => ⟨fun _ => ?_, fun q => absurd q (by decide)⟩) (fun q => ⟨fun q => absurd rfl q, fun _ => hbad q⟩)
  obtain ⟨b, hk, rfl⟩ := between (n := 1) rfl q1 q2
  rw [nI_cl (by omega)]
  refine ⟨vin (by omega) (by decide), ?_⟩
  rcases hi b (by omega) with ⟨c1, c2⟩ | ⟨x, c1, c2, c3⟩
  · rw [c2]
    exact ⟨fun q => absurd rfl q, fun _ => hst b (by omega) rfl c1⟩
  · rw [c2]
    refine ⟨fun _ => ?_, fun q => absurd q (by decide)⟩
    have hB := hib b (by omega) x c1
    have hloop : ∀ (d i : Nat) (r : Nat → Int32), i + d = 33 → (∀ j, j < i → r j = kept (33 * b + j)) → wp_X9_back_h25 ik kept Q (d + 1) (nI b) (nI i) r um kn := by
      intro d
      induction d with
      | zero =>
        intro i r hi' i1
        have : i = 33 := by omega
        subst this
        rw [wp_X9_back_h25]
        refine bLE 33 33 rfl rfl (by decide) (by decide) (fun _ => ?_) (fun q => by omega)
        obtain ⟨d1, d2, d3, d4⟩ := c3
        have hn := hB.1
        rw [show r (0 : Int32).toNatClampNeg = nI x.2 by show r 0 = _; rw [i1 0 (by decide)]; exact d1]
        refine hok b x (by omega) rfl c1 r ⟨?_, ?_, ?_, fun k hk => ⟨?_, ?_, ?_⟩⟩
        · rw [i1 0 (by decide)]; exact d1
        · rw [i1 1 (by decide)]; exact d2
        · rw [i1 2 (by decide)]; exact d3
        · rw [i1 (3 + k) (by omega)]; exact (d4 k hk).1
        · rw [i1 (13 + k) (by omega)]; exact (d4 k hk).2.1
        · rw [i1 (23 + k) (by omega)]; exact (d4 k hk).2.2
      | succ d ih =>
        intro i r hi' i1
        rw [wp_X9_back_h25]
        refine bLE 33 i rfl rfl (by decide) (by omega) (fun q => by omega) (fun _ => ?_)
        rw [nI_Lmul, nI_add, nI_cl (show i < 2147483648 by omega), nI_cl (show 33 * b + i < 2147483648 by omega)]
        refine ⟨vin (show 33 * b + i < 66 by omega) (by decide), ?_⟩
        intro y hy
        refine ⟨vin (by omega) (by decide), ?_⟩
        intro z hz
        rw [nI_1] at hz
        subst hz
        refine ih (i + 1) _ (by omega) (fun j hj => ?_)
        by_cases c : j = i
        · subst c; rw [upd_s]; exact hy
        · rw [upd_n c]; exact i1 j (by omega)
    exact ⟨33 + 1, hloop 33 0 now (by omega) (fun j hj => absurd hj (Nat.not_lt_zero j))⟩
end
