/-! ===== the house is told anew ===== -/
def MS (st : PS) (read : Nat → Int32) (changes start once : Int32) (rd rw' rt : Nat → Int32) : Prop :=
  HM st.1.1 st.1.2 read ∧ PC st.2.1 start rd rw' rt changes ∧ once = nI (oB st.2.2)
def h00 : HS := (fun _ => 0, fun _ => 0, fun _ => 0, 20, 0)
def p00 : PT := (fun _ => 0, fun _ => 0, fun _ => 0, 0, 0)
def st0 : PS := ((h00, 0), p00, (false, false, false))
theorem HB_00 : HB h00 0 := ⟨by decide, by decide, by decide, fun k hk => absurd hk (Nat.not_lt_zero k)⟩
theorem PTB_00 : PTB p00 := ⟨by decide, by decide, fun k hk => absurd hk (Nat.not_lt_zero k)⟩
theorem PSB_0 : PSB st0 := ⟨HB_00, PTB_00⟩
theorem m10 : (-10 : Int32) = zI (-10) := by decide
def HOUS (tx : Nat → Nat) (l : Nat) : Nat ⊕ (PS × Nat) := hous tx l (l + 1) st0 0 0
section
variable {tx : Nat → Nat} {l : Nat} {f : Nat → Int32}
theorem m_readsItem (hT : TXT tx l f) {i : Nat} (hi : i ≤ l) {st : PS} (hB : PSB st) {pl tk nu fa : Int32} {read : Nat → Int32} {changes start once : Int32} {rd rw' rt : Nat → Int32} (hS : MS st read changes start once rd rw' rt) {Q : Int32 → Int32 → Int32 → Int32 → Int32 → Int32 → (Nat → Int32) → Int32 → Int32 → Int32 → (Nat → Int32) → (Nat → Int32) → (Nat → Int32) → Prop}
    (h0 : ∀ p, item tx l st i = .inl p → ∀ (a b c d : Int32) (r : Nat → Int32) (u v w : Int32) (x y z : Nat → Int32), Q 0 a b c d (nI p) r u v w x y z)
    (h1 : ∀ st' e, item tx l st i = .inr (st', e) → ∀ (a b c d : Int32) (read : Nat → Int32) (changes start once : Int32) (rd rw' rt : Nat → Int32), MS st' read changes start once rd rw' rt → Q 1 (nI e) a b c d read changes start once rd rw' rt) :
    wp_X9_readsItem (nI l) f (nI i) pl tk nu fa read changes start once rd rw' rt Q := by
  obtain ⟨k1, k2, k3, k4, k5⟩ := tkn_ok tx hi
  have h255 := fun h => tkn_255 hT (i := i) h
  obtain ⟨hS1, hS2, hS3⟩ := hS
  have hz := hS2.1
  subst hz; subst hS3
  have hn : st.1.2 ≤ 10 := hB.1.1
  unfold wp_X9_readsItem wp_X9_fails
  refine m_next hT hi (fun num hnum => ?_)
  have key := fun (c : Nat) (hc : (97 ≤ c ∧ c ≤ 122) ∨ c = 59) => mTk_2 (c := c) k3 h255 hc
  refine ⟨fun q => ?_, fun q => ?_, fun q => ?_, fun q => ?_, fun q => ?_, fun q2 q3 q4 q5 q6 => ⟨Or.inl rfl, ?_⟩⟩
  · obtain ⟨t1, t2⟩ := (key 102 (by decide)).mp q
    have hit : item tx l st i = itm tx l st (tkn tx l i).1 (tkn tx l i).2.1 102 := by unfold item; rw [if_pos t1, t2]
    refine m_once0 hT k2 hS1 (fun hb => ⟨Or.inl rfl, h0 _ ?_ _ _ _ _ _ _ _ _ _ _ _⟩) (fun hb p e1 a b c d r s o => ⟨Or.inl rfl, h0 p ?_ _ _ _ _ _ _ _ _ _ _ _⟩) (fun hb v e e1 a b' c fa' read' hM => ok1 rfl (h1 ((hRul st.1.1 v (hWrap st.1.1), st.1.2), st.2.1, (true, st.2.2.2.1, st.2.2.2.2)) e ?_ _ _ _ _ _ _ _ _ _ _ _ ⟨hM, hS2, rfl⟩))
    · rw [hit]; unfold itm; rw [if_neg (by decide), if_neg (by decide), if_pos rfl, if_pos hb]
    · rw [hit]; unfold itm; rw [if_neg (by decide), if_neg (by decide), if_pos rfl, if_neg (by rw [hb]; decide), e1]
    · rw [hit]; unfold itm; rw [if_neg (by decide), if_neg (by decide), if_pos rfl, if_neg (by rw [hb]; decide), e1]
  · obtain ⟨t1, t2⟩ := (key 111 (by decide)).mp q
    have hit : item tx l st i = itm tx l st (tkn tx l i).1 (tkn tx l i).2.1 111 := by unfold item; rw [if_pos t1, t2]
    refine m_once2 hT k2 hS1 (fun hb => ⟨Or.inl rfl, h0 _ ?_ _ _ _ _ _ _ _ _ _ _ _⟩) (fun hb p e1 a b c d r s o => ⟨Or.inl rfl, h0 p ?_ _ _ _ _ _ _ _ _ _ _ _⟩) (fun hb v e e1 a b' c fa' read' hM => ok1 rfl (h1 (st.1, pSta st.2.1 v, (st.2.2.1, st.2.2.2.1, true)) e ?_ _ _ _ _ _ _ _ _ _ _ _ ⟨hM, ⟨rfl, rfl, hS2.2.2⟩, rfl⟩))
    · rw [hit]; unfold itm; rw [if_neg (by decide), if_neg (by decide), if_neg (by decide), if_neg (by decide), if_pos rfl, if_pos hb]
    · rw [hit]; unfold itm; rw [if_neg (by decide), if_neg (by decide), if_neg (by decide), if_neg (by decide), if_pos rfl, if_neg (by rw [hb]; decide), e1]
    · rw [hit]; unfold itm; rw [if_neg (by decide), if_neg (by decide), if_neg (by decide), if_neg (by decide), if_pos rfl, if_neg (by rw [hb]; decide), e1]
  · obtain ⟨t1, t2⟩ := (key 112 (by decide)).mp q
    have hit : item tx l st i = itm tx l st (tkn tx l i).1 (tkn tx l i).2.1 112 := by unfold item; rw [if_pos t1, t2]
    refine m_readsChange hT k2 hB.2 hS2 (fun hb => ⟨Or.inl rfl, h0 _ ?_ _ _ _ _ _ _ _ _ _ _ _⟩) (fun hb p e1 a b c d => ⟨Or.inl rfl, h0 p ?_ _ _ _ _ _ _ _ _ _ _ _⟩) (fun hb d w t e e1 a b c fa' D F G hc => ok1 rfl (h1 (st.1, pIns st.2.1 d w t, st.2.2) e ?_ _ _ _ _ _ _ _ _ _ _ _ ⟨hS1, hc, rfl⟩))
    · rw [hit]; unfold itm; rw [if_neg (by decide), if_pos rfl, if_pos hb]
    · rw [hit]; unfold itm; rw [if_neg (by decide), if_pos rfl, if_neg (by omega), e1]
    · rw [hit]; unfold itm; rw [if_neg (by decide), if_pos rfl, if_neg (by omega), e1]
  · obtain ⟨t1, t2⟩ := (key 114 (by decide)).mp q
    have hit : item tx l st i = itm tx l st (tkn tx l i).1 (tkn tx l i).2.1 114 := by unfold item; rw [if_pos t1, t2]
    refine m_readsReading hT k2 hn hS1 (fun hb => ⟨Or.inl rfl, h0 _ ?_ _ _ _ _ _ _ _ _ _ _ _⟩) (fun hb p e1 a b c d => ⟨Or.inl rfl, h0 p ?_ _ _ _ _ _ _ _ _ _ _ _⟩) (fun hb d c w e e1 a b c' fa' read' hM => ok1 rfl (h1 ((hIns st.1.1 (pos st.1.1 st.1.2 d) d c w, st.1.2 + 1), st.2) e ?_ _ _ _ _ _ _ _ _ _ _ _ ⟨hM, hS2, rfl⟩))
    · rw [hit]; unfold itm; rw [if_pos rfl, if_pos hb]
    · rw [hit]; unfold itm; rw [if_pos rfl, if_neg (by omega), e1]
    · rw [hit]; unfold itm; rw [if_pos rfl, if_neg (by omega), e1]
  · obtain ⟨t1, t2⟩ := (key 119 (by decide)).mp q
    have hit : item tx l st i = itm tx l st (tkn tx l i).1 (tkn tx l i).2.1 119 := by unfold item; rw [if_pos t1, t2]
    refine m_once1 hT k2 hS1 (fun hb => ⟨Or.inl rfl, h0 _ ?_ _ _ _ _ _ _ _ _ _ _ _⟩) (fun hb p e1 a b c d r s o => ⟨Or.inl rfl, h0 p ?_ _ _ _ _ _ _ _ _ _ _ _⟩) (fun hb v e e1 a b' c fa' read' hM => ok1 rfl (h1 ((hRul st.1.1 (hRate st.1.1) v, st.1.2), st.2.1, (st.2.2.1, true, st.2.2.2.2)) e ?_ _ _ _ _ _ _ _ _ _ _ _ ⟨hM, hS2, rfl⟩))
    · rw [hit]; unfold itm; rw [if_neg (by decide), if_neg (by decide), if_neg (by decide), if_pos rfl, if_pos hb]
    · rw [hit]; unfold itm; rw [if_neg (by decide), if_neg (by decide), if_neg (by decide), if_pos rfl, if_neg (by rw [hb]; decide), e1]
    · rw [hit]; unfold itm; rw [if_neg (by decide), if_neg (by decide), if_neg (by decide), if_pos rfl, if_neg (by rw [hb]; decide), e1]
  · refine h0 (tkn tx l i).1 ?_ _ _ _ _ _ _ _ _ _ _ _
    unfold item
    by_cases c : (tkn tx l i).2.2.1 = 2
    · rw [if_pos c]
      unfold itm
      rw [if_neg (fun d => q5 ((key 114 (by decide)).mpr ⟨c, d⟩)), if_neg (fun d => q4 ((key 112 (by decide)).mpr ⟨c, d⟩)), if_neg (fun d => q2 ((key 102 (by decide)).mpr ⟨c, d⟩)), if_neg (fun d => q6 ((key 119 (by decide)).mpr ⟨c, d⟩)), if_neg (fun d => q3 ((key 111 (by decide)).mpr ⟨c, d⟩))]
    · rw [if_neg c]
theorem item_skp {st : PS} {i : Nat} (hi : i ≤ l) : item tx l st (skp tx (l - i) i) = item tx l st i := by
  unfold item
  rw [tkn_skp tx hi]
/-- tellsAll: what was read becomes what is -/
theorem m_tellsAll {h : HS} {n : Nat} {read : Nat → Int32} (hn : n ≤ 10) (hM : HM h n read) {changes start : Int32} {rd rw' rt : Nat → Int32} {now : Nat → Int32} {cm s' : Int32} {cd wa th : Nat → Int32} {um : Int32} {ik : Nat → Int32} {kn : Int32} {Q : (Nat → Int32) → Int32 → Int32 → (Nat → Int32) → (Nat → Int32) → (Nat → Int32) → Int32 → (Nat → Int32) → Int32 → Prop}
    (hQ : ∀ (now cd wa th ik : Nat → Int32), HM h n now → (∀ k, k < 6 → cd k = rd k ∧ wa k = rw' k ∧ th k = rt k) → ik 0 = 0 → ik 1 = 0 → Q now changes start cd wa th 0 ik 0) : wp_X9_tellsAll read changes start rd rw' rt now cm s' cd wa th um ik kn Q := by
  have h2 : ∀ (d k : Nat) (now cd wa th : Nat → Int32), k + d = 6 → HM h n now → (∀ j, j < k → cd j = rd j ∧ wa j = rw' j ∧ th j = rt j) → wp_X9_tellsAll_h44 read changes start rd rw' rt Q (d + 1) (nI k) now changes start cd wa th um ik kn := by
    intro d
    induction d with
    | zero =>
      intro k now cd wa th hk hN i1
      have : k = 6 := by omega
      subst this
      rw [wp_X9_tellsAll_h44]
      refine bLE 6 6 rfl rfl (by decide) (by decide) (fun _ => ?_) (fun q => by omega)
      refine hQ now cd wa th _ hN i1 ?_ ?_
      · show upd (upd ik 0 _) 1 _ 0 = 0
        rw [upd_n (by decide), upd_s, nar_b0]
      · show upd (upd ik 0 _) 1 _ 1 = 0
        rw [upd_s, nar_b0]
    | succ d ih =>
      intro k now cd wa th hk hN i1
      rw [wp_X9_tellsAll_h44]
      refine bLE 6 k rfl rfl (by decide) (by omega) (fun q => by omega) (fun _ => ?_)
      rw [nI_cl (by omega)]
      refine ⟨vin (by omega) (by decide), ?_⟩
      intro y1 hy1
      refine ⟨vin (by omega) (by decide), vin (by omega) (by decide), ?_⟩
      intro y2 hy2
      refine ⟨vin (by omega) (by decide), vin (by omega) (by decide), ?_⟩
      intro y3 hy3
      refine ⟨vin (by omega) (by decide), ?_⟩
      intro z hz
      rw [nI_1] at hz
      subst hz
      refine ih (k + 1) _ _ _ _ (by omega) hN (fun j hj => ?_)
      by_cases c : j = k
      · subst c; rw [upd_s, upd_s, upd_s]; exact ⟨hy1, hy2, hy3⟩
      · rw [upd_n c, upd_n c, upd_n c]; exact i1 j (by omega)
  have h1 : ∀ (d k : Nat) (now : Nat → Int32), k + d = 33 → (∀ j, j < k → now j = read j) → wp_X9_tellsAll_h2 read changes start rd rw' rt Q (d + 1) (nI k) now cm s' cd wa th um ik kn := by
    intro d
    induction d with
    | zero =>
      intro k now hk i1
      have : k = 33 := by omega
      subst this
      rw [wp_X9_tellsAll_h2]
      refine bLE 33 33 rfl rfl (by decide) (by decide) (fun _ => ?_) (fun q => by omega)
      refine ⟨6 + 1, h2 6 0 now cd wa th (by omega) ?_ (fun j hj => absurd hj (Nat.not_lt_zero j))⟩
      obtain ⟨c1, c2, c3, c4⟩ := hM
      refine ⟨?_, ?_, ?_, fun k hk => ⟨?_, ?_, ?_⟩⟩
      · rw [i1 0 (by decide)]; exact c1
      · rw [i1 1 (by decide)]; exact c2
      · rw [i1 2 (by decide)]; exact c3
      · rw [i1 (3 + k) (by omega)]; exact (c4 k hk).1
      · rw [i1 (13 + k) (by omega)]; exact (c4 k hk).2.1
      · rw [i1 (23 + k) (by omega)]; exact (c4 k hk).2.2
    | succ d ih =>
      intro k now hk i1
      rw [wp_X9_tellsAll_h2]
      refine bLE 33 k rfl rfl (by decide) (by omega) (fun q => by omega) (fun _ => ?_)
      rw [nI_cl (by omega)]
      refine ⟨vin (by omega) (by decide), ?_⟩
      intro y hy
      refine ⟨vin (by omega) (by decide), ?_⟩
      intro z hz
      rw [nI_1] at hz
      subst hz
      refine ih (k + 1) _ (by omega) (fun j hj => ?_)
      by_cases c : j = k
      · subst c; rw [upd_s]; exact hy
      · rw [upd_n c]; exact i1 j (by omega)
  exact ⟨33 + 1, h1 33 0 now (by omega) (fun j hj => absurd hj (Nat.not_lt_zero j))⟩
theorem m_begins {read : Nat → Int32} {changes start once : Int32} {Q : (Nat → Int32) → Int32 → Int32 → Int32 → Prop} (hQ : ∀ read, HM h00 0 read → Q read 0 0 0) : wp_X9_begins read changes start once Q := by
  have h1 : ∀ (d k : Nat) (r : Nat → Int32), k + d = 33 → (∀ j, j < k → r j = 0) → wp_X9_begins_h2 Q (d + 1) (nI k) r changes start once := by
    intro d
    induction d with
    | zero =>
      intro k r hk i1
      have : k = 33 := by omega
      subst this
      rw [wp_X9_begins_h2]
      refine bLE 33 33 rfl rfl (by decide) (by decide) (fun _ => ?_) (fun q => by omega)
      refine hQ _ ⟨?_, ?_, ?_, fun k hk => absurd hk (Nat.not_lt_zero k)⟩
      · show upd r 1 20 0 = _; rw [upd_n (by decide), i1 0 (by decide)]; rfl
      · show upd r 1 20 1 = _; rw [upd_s]; rfl
      · show upd r 1 20 2 = _; rw [upd_n (by decide), i1 2 (by decide)]; rfl
    | succ d ih =>
      intro k r hk i1
      rw [wp_X9_begins_h2]
      refine bLE 33 k rfl rfl (by decide) (by omega) (fun q => by omega) (fun _ => ?_)
      rw [nI_cl (by omega)]
      refine ⟨vin (by omega) (by decide), ?_⟩
      intro z hz
      rw [nI_1] at hz
      subst hz
      refine ih (k + 1) _ (by omega) (fun j hj => ?_)
      by_cases c : j = k
      · subst c; rw [upd_s]
      · rw [upd_n c]; exact i1 j (by omega)
  exact ⟨33 + 1, h1 33 0 read (by omega) (fun j hj => absurd hj (Nat.not_lt_zero j))⟩
theorem m_houseLoop (hT : TXT tx l f) {now : Nat → Int32} {cm s' : Int32} {cd wa th : Nat → Int32} {um : Int32} {ik : Nat → Int32} {kn : Int32} {Q : Int32 → Int32 → Int32 → Int32 → Int32 → Int32 → Int32 → (Nat → Int32) → Int32 → Int32 → Int32 → (Nat → Int32) → (Nat → Int32) → (Nat → Int32) → (Nat → Int32) → Int32 → Int32 → (Nat → Int32) → (Nat → Int32) → (Nat → Int32) → Int32 → (Nat → Int32) → Int32 → Prop} :
    ∀ (F : Nat) (st : PS) (i j : Nat) (pl tk nu fa : Int32) (read : Nat → Int32) (changes start once : Int32) (rd rw' rt : Nat → Int32), i ≤ l → l - i < F → PSB st → MS st read changes start once rd rw' rt →
    (∀ p, hous tx l F st i j = .inl p → ∀ (a b c d : Int32) (e : Int32) (r : Nat → Int32) (u v w : Int32) (x y z : Nat → Int32), Q (-10 - nI p) (nI l) a b c d e r u v w x y z now cm s' cd wa th um ik kn) →
    (∀ st' j', hous tx l F st i j = .inr (st', j') → ∀ (a b c d e : Int32) (r : Nat → Int32) (u v w : Int32) (x y z now : Nat → Int32) (start : Int32) (cd wa th : Nat → Int32) (changes : Int32) (ik : Nat → Int32), HM st'.1.1 st'.1.2 now → PC st'.2.1 start cd wa th changes → ik 0 = 0 → ik 1 = 0 → Q (nI j') 0 a b c d e r u v w x y z now changes start cd wa th 0 ik 0) →
    wp_X9_house_h11 f Q F (nI j) (nI l) (nI i) pl tk nu fa read changes start once rd rw' rt now cm s' cd wa th um ik kn := by
  have hl := hT.1
  intro F
  induction F with
  | zero => intro st i j pl tk nu fa read changes start once rd rw' rt h1 h2; omega
  | succ F ih =>
    intro st i j pl tk nu fa read changes start once rd rw' rt hi hF hB hS hQ0 hQ1
    have hs := skp_b tx (l - i) i
    rw [wp_X9_house_h11]
    refine m_isMore hT hi (fun q => ⟨fun q => absurd q (by decide), fun _ => ?_⟩) (fun q => ⟨fun _ => ?_, fun q => absurd rfl q⟩)
    · have h0 : ¬ (tkn tx l i).2.2.1 = 0 := fun c => by have := (tkn_0 tx hi).mp c; omega
      refine m_readsItem hT (by omega) hB hS (fun p e a b c d r u v w x y z => is0 ?_) (fun st' e' e a b c d read changes start once rd rw' rt hS' => is1 ?_)
      · rw [item_skp hi] at e
        exact hQ0 p (hous_l h0 e) _ _ _ _ _ _ _ _ _ _ _ _
      · rw [item_skp hi] at e
        obtain ⟨g1, g2, g3⟩ := item_ok hi hB e
        intro x hx
        rw [nI_1] at hx
        subst hx
        refine ih st' e' (j + 1) _ _ _ _ _ _ _ _ _ _ _ g3 (by omega) g1 hS' ?_ ?_
        · intro p hp; rw [← hous_r (F := F) (j := j) h0 e] at hp; exact hQ0 p hp
        · intro st'' j'' hp; rw [← hous_r (F := F) (j := j) h0 e] at hp; exact hQ1 st'' j'' hp
    · have h0 : (tkn tx l i).2.2.1 = 0 := (tkn_0 tx hi).mpr q
      obtain ⟨hS1, hS2, hS3⟩ := hS
      refine m_tellsAll hB.1.1 hS1 (fun now cd wa th ik hM hcd k0 k1 => ?_)
      refine hQ1 st j (hous_e h0) _ _ _ _ _ _ _ _ _ _ _ _ now start cd wa th changes ik hM ⟨hS2.1, hS2.2.1, fun k hk => ?_⟩ k0 k1
      have hn : pN st.2.1 ≤ 6 := hB.2.1
      obtain ⟨g1, g2, g3⟩ := hcd k (by omega)
      rw [g1, g2, g3]
      exact hS2.2.2 k hk
theorem m_house (hT : TXT tx l f) {pl tk nu fa ra : Int32} {read : Nat → Int32} {changes start once : Int32} {rd rw' rt : Nat → Int32} {now : Nat → Int32} {cm s' : Int32} {cd wa th : Nat → Int32} {um : Int32} {ik : Nat → Int32} {kn : Int32} {Q : Int32 → Int32 → Int32 → Int32 → Int32 → Int32 → Int32 → (Nat → Int32) → Int32 → Int32 → Int32 → (Nat → Int32) → (Nat → Int32) → (Nat → Int32) → (Nat → Int32) → Int32 → Int32 → (Nat → Int32) → (Nat → Int32) → (Nat → Int32) → Int32 → (Nat → Int32) → Int32 → Prop}
    (hQ0 : ∀ p, HOUS tx l = .inl p → ∀ (a b c d : Int32) (e : Int32) (r : Nat → Int32) (u v w : Int32) (x y z : Nat → Int32), Q (-10 - nI p) (nI l) a b c d e r u v w x y z now cm s' cd wa th um ik kn)
    (hQ1 : ∀ st' j', HOUS tx l = .inr (st', j') → ∀ (a b c d e : Int32) (r : Nat → Int32) (u v w : Int32) (x y z now : Nat → Int32) (start : Int32) (cd wa th : Nat → Int32) (changes : Int32) (ik : Nat → Int32), HM st'.1.1 st'.1.2 now → PC st'.2.1 start cd wa th changes → ik 0 = 0 → ik 1 = 0 → Q (nI j') 0 a b c d e r u v w x y z now changes start cd wa th 0 ik 0) :
    wp_X9_house f (nI l) ra pl tk nu fa read changes start once rd rw' rt now cm s' cd wa th um ik kn Q := by
  unfold wp_X9_house
  refine m_begins (fun read hM => ⟨l + 1, ?_⟩)
  exact m_houseLoop hT (l + 1) st0 0 0 pl tk nu fa read 0 0 0 rd rw' rt (Nat.zero_le _) (by omega) PSB_0 ⟨hM, ⟨rfl, rfl, fun k hk => absurd hk (Nat.not_lt_zero k)⟩, rfl⟩ hQ0 hQ1
theorem x_pcopy {p : PT} (hb : PTB p) {start : Int32} {cd cf cs : Nat → Int32} {csz : Int32} (hc : PC p start cd cf cs csz) {s0 : Int32} {d0 f0 g0 : Nat → Int32} {z0 : Int32} {Q : Int32 → (Nat → Int32) → (Nat → Int32) → (Nat → Int32) → Int32 → Prop} (hQ : ∀ D F G : Nat → Int32, PC p start D F G (nI (pN p)) → Q start D F G (nI (pN p))) : wp_X4_copy start cd cf cs csz s0 d0 f0 g0 z0 Q := by
  obtain ⟨c1, c2, c3⟩ := hc
  subst c1
  unfold wp_X4_copy
  refine x_copy (by decide) hb.1 (fun D F G hD => ?_)
  refine hQ D F G ⟨rfl, c2, fun i hi => ?_⟩
  obtain ⟨e1, e2, e3⟩ := hD i hi
  rw [e1, e2, e3]; exact c3 i hi
theorem x_house (hT : TXT tx l f) {xk : Nat → Int32} {rate wrap : Int32} {days firsts seconds : Nat → Int32} {size : Int32} {ph pm : Nat → Int32} {start hia : Int32} {cd cf cs : Nat → Int32} {csz : Int32} {ta tp tt tn b0 b1 b2 tr tw : Int32} {td tf tg : Nat → Int32} {tz ts : Int32} {ud uf ug : Nat → Int32} {uz qs : Int32} {sd sf sg U r : Nat → Int32} {w : Nat → Int64} {e an fs rs : Nat → Int32} {kp s1 s2 kn : Int32} (h0 : sg 0 = nI 0)
    {Q : Int32 → (Nat → Int32) → Int32 → Int32 → (Nat → Int32) → (Nat → Int32) → (Nat → Int32) → Int32 → (Nat → Int32) → (Nat → Int32) → Int32 → Int32 → (Nat → Int32) → (Nat → Int32) → (Nat → Int32) → Int32 → Int32 → Int32 → Int32 → Int32 → Int32 → Int32 → Int32 → Int32 → Int32 → Int32 → (Nat → Int32) → (Nat → Int32) → (Nat → Int32) → Int32 → Int32 → (Nat → Int32) → (Nat → Int32) → (Nat → Int32) → Int32 → Int32 → (Nat → Int32) → (Nat → Int32) → (Nat → Int32) → (Nat → Int32) → (Nat → Int32) → (Nat → Int64) → (Nat → Int32) → (Nat → Int32) → (Nat → Int32) → (Nat → Int32) → Int32 → Int32 → Int32 → Int32 → Prop}
    (hQ0 : ∀ p, HOUS tx l = .inl p → ∀ (ta tp tt tn b0 b1 b2 tr tw : Int32) (td tf tg : Nat → Int32) (tz ts : Int32) (ud uf ug : Nat → Int32) (uz : Int32), Q (-10 - nI p) xk rate wrap days firsts seconds size ph pm start hia cd cf cs csz (nI l) ta tp tt tn b0 b1 b2 tr tw td tf tg tz ts ud uf ug uz qs sd sf sg U r w e an fs rs kp s1 s2 kn)
    (hQ1 : ∀ st' j', HOUS tx l = .inr (st', j') → PSB st' → ∀ (xk : Nat → Int32) (rate wrap : Int32) (days firsts seconds ph pm : Nat → Int32) (start hia : Int32) (cd cf cs : Nat → Int32) (ta tp tt tn b0 b1 b2 tr tw : Int32) (td tf tg : Nat → Int32) (tz ts : Int32) (ud uf ug : Nat → Int32) (uz : Int32) (sd sf sg U r : Nat → Int32) (w : Nat → Int64) (e an fs rs : Nat → Int32) (kp s1 s2 : Int32),
      HC st'.1.1 st'.1.2 rate wrap (nI st'.1.2) days firsts seconds → PC st'.2.1 start cd cf cs (nI (pN st'.2.1)) → FH (pW st'.2.1) (pT st'.2.1) (pN st'.2.1) (pS st'.2.1) ph hia → SO st'.1.1 st'.1.2 sd sf sg U r w e an fs rs kp s1 s2 → xk 0 = 0 → xk 1 = 0 →
      Q (nI j') xk rate wrap days firsts seconds (nI st'.1.2) ph pm start hia cd cf cs (nI (pN st'.2.1)) 0 ta tp tt tn b0 b1 b2 tr tw td tf tg tz ts ud uf ug uz 0 sd sf sg U r w e an fs rs kp s1 s2 0) :
    wp_X8_house f xk rate wrap days firsts seconds size ph pm start hia cd cf cs csz (nI l) ta tp tt tn b0 b1 b2 tr tw td tf tg tz ts ud uf ug uz qs sd sf sg U r w e an fs rs kp s1 s2 kn Q := by
  have hl := hT.1
  unfold wp_X8_house wp_X7_read wp_X7_begin wp_X1_reset wp_X4_reset
  refine ⟨l + 1, ?_⟩
  refine x_readLoop hT (l + 1) st0 0 0 _ _ _ _ _ _ _ _ _ _ _ _ _ _ _ _ _ (Nat.zero_le _) (by omega) (Nat.le_refl _) PSB_0 ⟨⟨rfl, rfl, rfl, fun k hk => absurd hk (Nat.not_lt_zero k)⟩, ⟨rfl, rfl, fun k hk => absurd hk (Nat.not_lt_zero k)⟩, rfl, rfl, rfl⟩ ?_ ?_
  · intro p hp a1 a2 a3 a4 a5 a6 a7 a8 a9 a10 a11 a12 a13 a14 a15 a16 a17
    have hpl := hous_le (l + 1) st0 0 0 p (Nat.zero_le _) PSB_0 hp
    refine ⟨fun q => absurd q ?_, fun _ => hQ0 p hp _ _ _ _ _ _ _ _ _ _ _ _ _ _ _ _ _ _⟩
    have e1 : (-10 : Int32) - nI p = zI (-10 - (p : Int)) := by rw [m10, zI_nI p, zI_sub]
    rw [e1, Int32.le_iff_toInt_le, zI_toInt (by omega) (by omega)]
    show ¬ (0 : Int) ≤ _
    omega
  · intro st' j' hp hB hj a1 a2 a3 a4 b0 b1 b2 rate wrap days firsts seconds size start cd cf cs csz hC
    obtain ⟨hC1, hC2, -⟩ := hC
    refine ge0 (by omega) ?_
    refine x_hcopy hB.1.1 hC1 (fun D F G hc' => ?_)
    refine x_pcopy hB.2 hC2 (fun D2 F2 G2 hp' => ?_)
    unfold wp_X7_empty wp_X3_forget
    have hend : ∀ xk : Nat → Int32, xk 0 = 0 → xk 1 = 0 → ∀ m, wp_X8_house_h59 f Q (m + 1) (nI j') 2 xk rate wrap D F G (nI st'.1.2) ph pm start hia D2 F2 G2 (nI (pN st'.2.1)) 0 a1 a2 a3 a4 b0 b1 b2 rate wrap days firsts seconds size start cd cf cs csz 0 sd sf sg U r w e an fs rs kp s1 s2 kn := by
      intro xk k0 k1 m
      rw [wp_X8_house_h59]
      refine bLE 2 2 rfl rfl (by decide) (by decide) (fun _ => ?_) (fun q => by omega)
      refine x_repair hB.1 hc' h0 (fun sd sf sg U r w e an fs rs kp s1 s2 hS => ?_)
      have hst : start = nI (pS st'.2.1) := hp'.2.1
      have hfol := x_follow (Q := fun ph pm hia => Q (nI j') xk rate wrap D F G (nI st'.1.2) ph pm start hia D2 F2 G2 (nI (pN st'.2.1)) 0 a1 a2 a3 a4 b0 b1 b2 rate wrap days firsts seconds size start cd cf cs csz 0 sd sf sg U r w e an fs rs kp s1 s2 0) hB.2 (fun k hk => (hp'.2.2 k hk).2.1) (fun k hk => (hp'.2.2 k hk).2.2) (ph := ph) (pm := pm) (hia := hia) (fun ph pm hia hF => hQ1 st' j' hp hB xk rate wrap D F G ph pm start hia D2 F2 G2 _ _ _ _ _ _ _ _ _ _ _ _ _ _ _ _ _ _ sd sf sg U r w e an fs rs kp s1 s2 hc' hp' hF hS k0 k1)
      rw [← hst] at hfol
      exact hfol
    refine ⟨3, ?_⟩
    rw [wp_X8_house_h59]
    refine bLE 2 0 rfl rfl (by decide) (by decide) (fun q => by omega) (fun _ => ⟨vin (n := 0) (by decide) (by decide), ?_⟩)
    intro z hz
    have hz' : z = 1 := by rw [hz]; rfl
    subst hz'
    rw [wp_X8_house_h59]
    refine bLE 2 1 rfl rfl (by decide) (by decide) (fun q => by omega) (fun _ => ⟨vin (n := 1) (by decide) (by decide), ?_⟩)
    intro z hz
    have hz' : z = 2 := by rw [hz]; rfl
    subst hz'
    refine hend _ ?_ ?_ 0
    · show upd (upd xk 0 _) 1 _ 0 = 0
      rw [upd_n (by decide), upd_s, nar_b0]
    · show upd (upd xk 0 _) 1 _ 1 = 0
      rw [upd_s, nar_b0]
end
/-! type, clear -/
def TYA (l : Nat) (p : Int32) : Int32 := if p < 0 ∨ 255 < p then -1 else if l = 120 then -3 else nI (l + 1)
section
variable {tx : Nat → Nat} {l : Nat} {f : Nat → Int32}
def txU (tx : Nat → Nat) (l : Nat) (p : Int32) (i : Nat) : Nat := if i = l then p.toNatClampNeg else tx i
theorem TXT_up (hT : TXT tx l f) (hl : l < 120) {p : Int32} (h1 : ¬ p < 0) (h2 : ¬ 255 < p) : TXT (txU tx l p) (l + 1) (upd f l p) := by
  obtain ⟨c, hc, rfl⟩ := between (n := 255) rfl h1 h2
  refine ⟨by omega, fun i hi => ?_⟩
  unfold txU
  by_cases d : i = l
  · subst d
    rw [if_pos rfl, upd_s, nI_cl (by omega)]
    exact ⟨hc, rfl⟩
  · rw [if_neg d, upd_n d]
    exact hT.2 i (by omega)
theorem x_type (hT : TXT tx l f) {p : Int32} {Q : Int32 → (Nat → Int32) → Int32 → Prop} (hsame : (p < 0 ∨ 255 < p) ∨ l = 120 → Q (TYA l p) f (nI l)) (hok : ¬ p < 0 → ¬ 255 < p → l < 120 → Q (TYA l p) (upd f l p) (nI (l + 1))) : wp_X8_type f (nI l) p Q := by
  have hl := hT.1
  have hb : (p < 0 ∨ 255 < p) → Q (-1) f (nI l) := by
    intro c
    have := hsame (Or.inl c)
    unfold TYA at this
    rw [if_pos c] at this; exact this
  unfold wp_X8_type wp_X8_type_b11
  refine ⟨fun c => hb (Or.inl c), fun c1 => ⟨fun c => ?_, fun c => hb (Or.inr ?_)⟩⟩
  · have c2 : ¬ (255 : Int32) < p := Int32.not_lt.mpr c
    unfold wp_X7_take
    have hno : ¬ (p < 0 ∨ 255 < p) := by
      rintro (d | d)
      · exact c1 d
      · exact c2 d
    refine bLT l 120 rfl rfl (by omega) (by decide) (fun q => ⟨vin q (by decide), ?_⟩) (fun q => ?_)
    · intro x hx
      have hx' : x = nI (l + 1) := by rw [hx]; exact nI_1 l
      rw [hx', nI_cl (by omega)]
      have := hok c1 c2 q
      unfold TYA at this
      rw [if_neg hno, if_neg (by omega)] at this
      exact this
    · have := hsame (Or.inr (by omega))
      unfold TYA at this
      rw [if_neg hno, if_pos (by omega)] at this
      exact this
  · exact Int32.not_le.mp c
theorem m_type (hT : TXT tx l f) {p : Int32} {Q : Int32 → Int32 → (Nat → Int32) → Prop} (hsame : (p < 0 ∨ 255 < p) ∨ l = 120 → Q (TYA l p) (nI l) f) (hok : ¬ p < 0 → ¬ 255 < p → l < 120 → Q (TYA l p) (nI (l + 1)) (upd f l p)) : wp_X9_type (nI l) f p Q := by
  have hl := hT.1
  unfold wp_X9_type
  refine m_in (fun c1 c2 => is1 ?_) (fun c => is0 ?_)
  · have hno : ¬ (p < 0 ∨ 255 < p) := by
      rintro (d | d)
      · exact c1 d
      · exact c2 d
    refine bNE l 120 rfl rfl (by omega) (by decide) (fun q => ⟨vin (by omega) (by decide), ?_⟩) (fun q => ?_)
    · intro x hx
      have hx' : x = nI (l + 1) := by rw [hx]; exact nI_1 l
      rw [hx', nI_cl (by omega)]
      have := hok c1 c2 (by omega)
      unfold TYA at this
      rw [if_neg hno, if_neg q] at this
      exact this
    · have := hsame (Or.inr q)
      unfold TYA at this
      rw [if_neg hno, if_pos q] at this
      exact this
  · have := hsame (Or.inl c)
    unfold TYA at this
    rw [if_pos c] at this
    exact this
end
