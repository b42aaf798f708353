/-! ===== the law ===== -/
theorem lgc (x : Int64) : lg_cmp x x = 0 := by
  unfold lg_cmp
  rw [if_neg Int64.lt_irrefl, if_pos rfl]
theorem eqr {A : Prop} {x : Int32} (h : A) : (x = x → A) ∧ (¬ x = x → False) := ⟨fun _ => h, fun q => absurd rfl q⟩
theorem eql {A : Prop} {x : Int64} (h : A) : (lg_cmp x x = 0 → A) ∧ (¬ lg_cmp x x = 0 → False) := ⟨fun _ => h, fun q => absurd (lgc x) q⟩
theorem nI_inj {a b : Nat} (ha : a < 2147483648) (hb : b < 2147483648) {p : Int32} (h1 : p = nI a) (h2 : p = nI b) : a = b := (nI_eq ha hb).mp (h1.symm.trans h2)
theorem TXT_0 (tx : Nat → Nat) (f : Nat → Int32) : TXT tx 0 f := ⟨Nat.zero_le _, fun i hi => absurd hi (Nat.not_lt_zero i)⟩
theorem IC_0 {xk R W S : Nat → Int32} {D F G : Nat → Nat → Int32} (h0 : xk 0 = 0) (h1 : xk 1 = 0) : IC (fun _ => none) xk R W S D F G := by
  intro e he
  have : e = 0 ∨ e = 1 := by omega
  rcases this with rfl | rfl
  · exact Or.inl ⟨rfl, h0⟩
  · exact Or.inl ⟨rfl, h1⟩
theorem IM_0 {ik kept : Nat → Int32} (h0 : ik 0 = 0) (h1 : ik 1 = 0) : IM (fun _ => none) ik kept := by
  intro e he
  have : e = 0 ∨ e = 1 := by omega
  rcases this with rfl | rfl
  · exact Or.inl ⟨rfl, h0⟩
  · exact Or.inl ⟨rfl, h1⟩
theorem IB_0 : IB (fun _ => none) := by
  intro e he x hx
  cases hx
theorem IB_up {I : Nat → Option (HS × Nat)} (hib : IB I) {k : Nat} {x : HS × Nat} (hx : HB x.1 x.2) : IB (iup I k x) := by
  intro e he y hy
  unfold iup at hy
  by_cases c : e = k
  · rw [if_pos c] at hy; have := Option.some.inj hy; subst this; exact hx
  · rw [if_neg c] at hy; exact hib e he y hy
theorem mp_le {m : Nat} (h : m ≤ 10) : mp m ≤ 10 := by unfold mp; split <;> omega
theorem a1_lt (a : Nat) : a1 a < 10 := Nat.mod_lt _ (by decide)

def INV (x_kept : Nat → Int32) (h_rate : Int32) (h_wrap : Int32) (e_days : Nat → Int32) (e_firsts : Nat → Int32) (e_seconds : Nat → Int32) (e_size : Int32) (p_held : Nat → Int32) (p_start : Int32) (p_heldInAll : Int32) (ce_days : Nat → Int32) (ce_firsts : Nat → Int32) (ce_seconds : Nat → Int32) (ce_size : Int32) (t_letters : Nat → Int32) (t_length : Int32) (q_size : Int32) (q_next : Int32) (qh_rate : Nat → Int32) (qh_wrap : Nat → Int32) (qe_size : Nat → Int32) (qe_days : Nat → Nat → Int32) (qe_firsts : Nat → Nat → Int32) (qe_seconds : Nat → Nat → Int32) (ih_rate : Nat → Int32) (ih_wrap : Nat → Int32) (ie_size : Nat → Int32) (ie_days : Nat → Nat → Int32) (ie_firsts : Nat → Nat → Int32) (ie_seconds : Nat → Nat → Int32) (s_days : Nat → Int32) (s_fars : Nat → Int32) (s_goods : Nat → Int32) (r_until : Nat → Int32) (r_rest : Nat → Int32) (r_ways : Nat → Int64) (r_inEach : Nat → Int32) (r_inAny : Nat → Int32) (r_firsts : Nat → Int32) (r_reasons : Nat → Int32) (r_keptInFirst : Int32) (r_swapAt : Int32) (r_swapGood : Int32) (l_bests : Nat → Int32) (l_known : Int32) (m_letterMany : Int32) (m_text : Nat → Int32) (mq_now : Nat → Int32) (m_changeMany : Int32) (m_start : Int32) (m_changeDays : Nat → Int32) (m_was : Nat → Int32) (m_then : Nat → Int32) (m_undoMany : Int32) (m_undoAt : Int32) (m_undos : Nat → Int32) (m_isKept : Nat → Int32) (m_kept : Nat → Int32) (m_isKnown : Int32) (m_best : Int32) (m_firstCode : Int32) (m_rivalMany : Int64) (m_certain : Int32) (m_possible : Int32) (m_goods : Nat → Int32) : Prop :=
  ∃ (tx : Nat → Nat) (l : Nat) (h : HS) (n : Nat) (p : PT) (E : Nat → HS × Nat) (a m : Nat) (I : Nat → Option (HS × Nat)),
    (TXT tx l t_letters ∧ TXT tx l m_text ∧ t_length = nI l ∧ m_letterMany = nI l) ∧
    (HB h n ∧ HC h n h_rate h_wrap e_size e_days e_firsts e_seconds ∧ HM h n mq_now) ∧
    (PTB p ∧ PC p p_start ce_days ce_firsts ce_seconds ce_size ∧ PC p m_start m_changeDays m_was m_then m_changeMany ∧ FH (pW p) (pT p) (pN p) (pS p) p_held p_heldInAll) ∧
    (a < 10 ∧ m ≤ 10 ∧ q_size = nI m ∧ q_next = nI a ∧ m_undoMany = nI m ∧ m_undoAt = nI a ∧ QC E a m qh_rate qh_wrap qe_size qe_days qe_firsts qe_seconds ∧ QM E a m m_undos ∧ QB E a m) ∧
    (IC I x_kept ih_rate ih_wrap ie_size ie_days ie_firsts ie_seconds ∧ IM I m_isKept m_kept ∧ IB I) ∧
    SO h n s_days s_fars s_goods r_until r_rest r_ways r_inEach r_inAny r_firsts r_reasons r_keptInFirst r_swapAt r_swapGood ∧
    (l_known = 0 ∨ (l_known = 1 ∧ LBS h n l_bests)) ∧
    (m_isKnown = 0 ∨ (m_isKnown = 1 ∧ KN h n m_best m_firstCode m_rivalMany m_certain m_possible m_goods))
theorem law_loop (L : Nat) (xs : Nat → Int32) (hL : L ≤ 2048) : ∀ (F v : Nat) (x_kept : Nat → Int32) (h_rate : Int32) (h_wrap : Int32) (e_days : Nat → Int32) (e_firsts : Nat → Int32) (e_seconds : Nat → Int32) (e_size : Int32) (p_held : Nat → Int32) (p_most : Nat → Int32) (p_start : Int32) (p_heldInAll : Int32) (ce_days : Nat → Int32) (ce_firsts : Nat → Int32) (ce_seconds : Nat → Int32) (ce_size : Int32) (t_letters : Nat → Int32) (t_length : Int32) (t_at : Int32) (t_place : Int32) (t_token : Int32) (t_number : Int32) (t_rateTold : Int32) (t_wrapTold : Int32) (t_startTold : Int32) (th_rate : Int32) (th_wrap : Int32) (te_days : Nat → Int32) (te_firsts : Nat → Int32) (te_seconds : Nat → Int32) (te_size : Int32) (tp_start : Int32) (tce_days : Nat → Int32) (tce_firsts : Nat → Int32) (tce_seconds : Nat → Int32) (tce_size : Int32) (q_size : Int32) (q_next : Int32) (qh_rate : Nat → Int32) (qh_wrap : Nat → Int32) (qe_size : Nat → Int32) (qe_days : Nat → Nat → Int32) (qe_firsts : Nat → Nat → Int32) (qe_seconds : Nat → Nat → Int32) (ih_rate : Nat → Int32) (ih_wrap : Nat → Int32) (ie_size : Nat → Int32) (ie_days : Nat → Nat → Int32) (ie_firsts : Nat → Nat → Int32) (ie_seconds : Nat → Nat → Int32) (s_days : Nat → Int32) (s_fars : Nat → Int32) (s_goods : Nat → Int32) (r_until : Nat → Int32) (r_rest : Nat → Int32) (r_ways : Nat → Int64) (r_inEach : Nat → Int32) (r_inAny : Nat → Int32) (r_firsts : Nat → Int32) (r_reasons : Nat → Int32) (r_keptInFirst : Int32) (r_swapAt : Int32) (r_swapGood : Int32) (l_bests : Nat → Int32) (l_kept : Nat → Int32) (l_enough : Nat → Int32) (l_known : Int32) (m_letterMany : Int32) (m_text : Nat → Int32) (m_readAt : Int32) (m_tokenAt : Int32) (m_token : Int32) (m_value : Int32) (m_faultAt : Int32) (m_read : Nat → Int32) (m_readChanges : Int32) (m_readStart : Int32) (m_readOnce : Int32) (m_readDays : Nat → Int32) (m_readWas : Nat → Int32) (m_readThen : Nat → Int32) (mq_now : Nat → Int32) (m_changeMany : Int32) (m_start : Int32) (m_changeDays : Nat → Int32) (m_was : Nat → Int32) (m_then : Nat → Int32) (m_undoMany : Int32) (m_undoAt : Int32) (m_undos : Nat → Int32) (m_isKept : Nat → Int32) (m_kept : Nat → Int32) (m_isKnown : Int32) (m_best : Int32) (m_firstCode : Int32) (m_rivalMany : Int64) (m_certain : Int32) (m_possible : Int32) (m_goods : Nat → Int32) (m_setKept : Int32) (m_lastKept : Int32) (m_lastFar : Int32) (m_swapMost : Int32), v ≤ L → L < v + F → INV x_kept h_rate h_wrap e_days e_firsts e_seconds e_size p_held p_start p_heldInAll ce_days ce_firsts ce_seconds ce_size t_letters t_length q_size q_next qh_rate qh_wrap qe_size qe_days qe_firsts qe_seconds ih_rate ih_wrap ie_size ie_days ie_firsts ie_seconds s_days s_fars s_goods r_until r_rest r_ways r_inEach r_inAny r_firsts r_reasons r_keptInFirst r_swapAt r_swapGood l_bests l_known m_letterMany m_text mq_now m_changeMany m_start m_changeDays m_was m_then m_undoMany m_undoAt m_undos m_isKept m_kept m_isKnown m_best m_firstCode m_rivalMany m_certain m_possible m_goods → wp_L_law_h18 L xs F (nI v) x_kept h_rate h_wrap e_days e_firsts e_seconds e_size p_held p_most p_start p_heldInAll ce_days ce_firsts ce_seconds ce_size t_letters t_length t_at t_place t_token t_number t_rateTold t_wrapTold t_startTold th_rate th_wrap te_days te_firsts te_seconds te_size tp_start tce_days tce_firsts tce_seconds tce_size q_size q_next qh_rate qh_wrap qe_size qe_days qe_firsts qe_seconds ih_rate ih_wrap ie_size ie_days ie_firsts ie_seconds s_days s_fars s_goods r_until r_rest r_ways r_inEach r_inAny r_firsts r_reasons r_keptInFirst r_swapAt r_swapGood l_bests l_kept l_enough l_known m_letterMany m_text m_readAt m_tokenAt m_token m_value m_faultAt m_read m_readChanges m_readStart m_readOnce m_readDays m_readWas m_readThen mq_now m_changeMany m_start m_changeDays m_was m_then m_undoMany m_undoAt m_undos m_isKept m_kept m_isKnown m_best m_firstCode m_rivalMany m_certain m_possible m_goods m_setKept m_lastKept m_lastFar m_swapMost := by
  intro F
  induction F with
  | zero => intro v x_kept h_rate h_wrap e_days e_firsts e_seconds e_size p_held p_most p_start p_heldInAll ce_days ce_firsts ce_seconds ce_size t_letters t_length t_at t_place t_token t_number t_rateTold t_wrapTold t_startTold th_rate th_wrap te_days te_firsts te_seconds te_size tp_start tce_days tce_firsts tce_seconds tce_size q_size q_next qh_rate qh_wrap qe_size qe_days qe_firsts qe_seconds ih_rate ih_wrap ie_size ie_days ie_firsts ie_seconds s_days s_fars s_goods r_until r_rest r_ways r_inEach r_inAny r_firsts r_reasons r_keptInFirst r_swapAt r_swapGood l_bests l_kept l_enough l_known m_letterMany m_text m_readAt m_tokenAt m_token m_value m_faultAt m_read m_readChanges m_readStart m_readOnce m_readDays m_readWas m_readThen mq_now m_changeMany m_start m_changeDays m_was m_then m_undoMany m_undoAt m_undos m_isKept m_kept m_isKnown m_best m_firstCode m_rivalMany m_certain m_possible m_goods m_setKept m_lastKept m_lastFar m_swapMost h1 h2; omega
  | succ F ih =>
    intro v x_kept h_rate h_wrap e_days e_firsts e_seconds e_size p_held p_most p_start p_heldInAll ce_days ce_firsts ce_seconds ce_size t_letters t_length t_at t_place t_token t_number t_rateTold t_wrapTold t_startTold th_rate th_wrap te_days te_firsts te_seconds te_size tp_start tce_days tce_firsts tce_seconds tce_size q_size q_next qh_rate qh_wrap qe_size qe_days qe_firsts qe_seconds ih_rate ih_wrap ie_size ie_days ie_firsts ie_seconds s_days s_fars s_goods r_until r_rest r_ways r_inEach r_inAny r_firsts r_reasons r_keptInFirst r_swapAt r_swapGood l_bests l_kept l_enough l_known m_letterMany m_text m_readAt m_tokenAt m_token m_value m_faultAt m_read m_readChanges m_readStart m_readOnce m_readDays m_readWas m_readThen mq_now m_changeMany m_start m_changeDays m_was m_then m_undoMany m_undoAt m_undos m_isKept m_kept m_isKnown m_best m_firstCode m_rivalMany m_certain m_possible m_goods m_setKept m_lastKept m_lastFar m_swapMost hv hF hI
    have hgo : ∀ (x_kept : Nat → Int32) (h_rate : Int32) (h_wrap : Int32) (e_days : Nat → Int32) (e_firsts : Nat → Int32) (e_seconds : Nat → Int32) (e_size : Int32) (p_held : Nat → Int32) (p_most : Nat → Int32) (p_start : Int32) (p_heldInAll : Int32) (ce_days : Nat → Int32) (ce_firsts : Nat → Int32) (ce_seconds : Nat → Int32) (ce_size : Int32) (t_letters : Nat → Int32) (t_length : Int32) (t_at : Int32) (t_place : Int32) (t_token : Int32) (t_number : Int32) (t_rateTold : Int32) (t_wrapTold : Int32) (t_startTold : Int32) (th_rate : Int32) (th_wrap : Int32) (te_days : Nat → Int32) (te_firsts : Nat → Int32) (te_seconds : Nat → Int32) (te_size : Int32) (tp_start : Int32) (tce_days : Nat → Int32) (tce_firsts : Nat → Int32) (tce_seconds : Nat → Int32) (tce_size : Int32) (q_size : Int32) (q_next : Int32) (qh_rate : Nat → Int32) (qh_wrap : Nat → Int32) (qe_size : Nat → Int32) (qe_days : Nat → Nat → Int32) (qe_firsts : Nat → Nat → Int32) (qe_seconds : Nat → Nat → Int32) (ih_rate : Nat → Int32) (ih_wrap : Nat → Int32) (ie_size : Nat → Int32) (ie_days : Nat → Nat → Int32) (ie_firsts : Nat → Nat → Int32) (ie_seconds : Nat → Nat → Int32) (s_days : Nat → Int32) (s_fars : Nat → Int32) (s_goods : Nat → Int32) (r_until : Nat → Int32) (r_rest : Nat → Int32) (r_ways : Nat → Int64) (r_inEach : Nat → Int32) (r_inAny : Nat → Int32) (r_firsts : Nat → Int32) (r_reasons : Nat → Int32) (r_keptInFirst : Int32) (r_swapAt : Int32) (r_swapGood : Int32) (l_bests : Nat → Int32) (l_kept : Nat → Int32) (l_enough : Nat → Int32) (l_known : Int32) (m_letterMany : Int32) (m_text : Nat → Int32) (m_readAt : Int32) (m_tokenAt : Int32) (m_token : Int32) (m_value : Int32) (m_faultAt : Int32) (m_read : Nat → Int32) (m_readChanges : Int32) (m_readStart : Int32) (m_readOnce : Int32) (m_readDays : Nat → Int32) (m_readWas : Nat → Int32) (m_readThen : Nat → Int32) (mq_now : Nat → Int32) (m_changeMany : Int32) (m_start : Int32) (m_changeDays : Nat → Int32) (m_was : Nat → Int32) (m_then : Nat → Int32) (m_undoMany : Int32) (m_undoAt : Int32) (m_undos : Nat → Int32) (m_isKept : Nat → Int32) (m_kept : Nat → Int32) (m_isKnown : Int32) (m_best : Int32) (m_firstCode : Int32) (m_rivalMany : Int64) (m_certain : Int32) (m_possible : Int32) (m_goods : Nat → Int32) (m_setKept : Int32) (m_lastKept : Int32) (m_lastFar : Int32) (m_swapMost : Int32), v + 4 ≤ L → INV x_kept h_rate h_wrap e_days e_firsts e_seconds e_size p_held p_start p_heldInAll ce_days ce_firsts ce_seconds ce_size t_letters t_length q_size q_next qh_rate qh_wrap qe_size qe_days qe_firsts qe_seconds ih_rate ih_wrap ie_size ie_days ie_firsts ie_seconds s_days s_fars s_goods r_until r_rest r_ways r_inEach r_inAny r_firsts r_reasons r_keptInFirst r_swapAt r_swapGood l_bests l_known m_letterMany m_text mq_now m_changeMany m_start m_changeDays m_was m_then m_undoMany m_undoAt m_undos m_isKept m_kept m_isKnown m_best m_firstCode m_rivalMany m_certain m_possible m_goods → wp_L_law_b549 L xs (fun y0 y1 y2 y3 y4 y5 y6 y7 y8 y9 y10 y11 y12 y13 y14 y15 y16 y17 y18 y19 y20 y21 y22 y23 y24 y25 y26 y27 y28 y29 y30 y31 y32 y33 y34 y35 y36 y37 y38 y39 y40 y41 y42 y43 y44 y45 y46 y47 y48 y49 y50 y51 y52 y53 y54 y55 y56 y57 y58 y59 y60 y61 y62 y63 y64 y65 y66 y67 y68 y69 y70 y71 y72 y73 y74 y75 y76 y77 y78 y79 y80 y81 y82 y83 y84 y85 y86 y87 y88 y89 y90 y91 y92 y93 y94 y95 y96 y97 y98 y99 y100 y101 y102 => wp_L_law_h18 L xs F y0 y1 y2 y3 y4 y5 y6 y7 y8 y9 y10 y11 y12 y13 y14 y15 y16 y17 y18 y19 y20 y21 y22 y23 y24 y25 y26 y27 y28 y29 y30 y31 y32 y33 y34 y35 y36 y37 y38 y39 y40 y41 y42 y43 y44 y45 y46 y47 y48 y49 y50 y51 y52 y53 y54 y55 y56 y57 y58 y59 y60 y61 y62 y63 y64 y65 y66 y67 y68 y69 y70 y71 y72 y73 y74 y75 y76 y77 y78 y79 y80 y81 y82 y83 y84 y85 y86 y87 y88 y89 y90 y91 y92 y93 y94 y95 y96 y97 y98 y99 y100 y101 y102) (nI v) x_kept h_rate h_wrap e_days e_firsts e_seconds e_size p_held p_most p_start p_heldInAll ce_days ce_firsts ce_seconds ce_size t_letters t_length t_at t_place t_token t_number t_rateTold t_wrapTold t_startTold th_rate th_wrap te_days te_firsts te_seconds te_size tp_start tce_days tce_firsts tce_seconds tce_size q_size q_next qh_rate qh_wrap qe_size qe_days qe_firsts qe_seconds ih_rate ih_wrap ie_size ie_days ie_firsts ie_seconds s_days s_fars s_goods r_until r_rest r_ways r_inEach r_inAny r_firsts r_reasons r_keptInFirst r_swapAt r_swapGood l_bests l_kept l_enough l_known m_letterMany m_text m_readAt m_tokenAt m_token m_value m_faultAt m_read m_readChanges m_readStart m_readOnce m_readDays m_readWas m_readThen mq_now m_changeMany m_start m_changeDays m_was m_then m_undoMany m_undoAt m_undos m_isKept m_kept m_isKnown m_best m_firstCode m_rivalMany m_certain m_possible m_goods m_setKept m_lastKept m_lastFar m_swapMost := by
      intro x_kept h_rate h_wrap e_days e_firsts e_seconds e_size p_held p_most p_start p_heldInAll ce_days ce_firsts ce_seconds ce_size t_letters t_length t_at t_place t_token t_number t_rateTold t_wrapTold t_startTold th_rate th_wrap te_days te_firsts te_seconds te_size tp_start tce_days tce_firsts tce_seconds tce_size q_size q_next qh_rate qh_wrap qe_size qe_days qe_firsts qe_seconds ih_rate ih_wrap ie_size ie_days ie_firsts ie_seconds s_days s_fars s_goods r_until r_rest r_ways r_inEach r_inAny r_firsts r_reasons r_keptInFirst r_swapAt r_swapGood l_bests l_kept l_enough l_known m_letterMany m_text m_readAt m_tokenAt m_token m_value m_faultAt m_read m_readChanges m_readStart m_readOnce m_readDays m_readWas m_readThen mq_now m_changeMany m_start m_changeDays m_was m_then m_undoMany m_undoAt m_undos m_isKept m_kept m_isKnown m_best m_firstCode m_rivalMany m_certain m_possible m_goods m_setKept m_lastKept m_lastFar m_swapMost hv4 hI x hx
      rw [nI_addL] at hx
      subst hx
      exact ih (v + 4) x_kept h_rate h_wrap e_days e_firsts e_seconds e_size p_held p_most p_start p_heldInAll ce_days ce_firsts ce_seconds ce_size t_letters t_length t_at t_place t_token t_number t_rateTold t_wrapTold t_startTold th_rate th_wrap te_days te_firsts te_seconds te_size tp_start tce_days tce_firsts tce_seconds tce_size q_size q_next qh_rate qh_wrap qe_size qe_days qe_firsts qe_seconds ih_rate ih_wrap ie_size ie_days ie_firsts ie_seconds s_days s_fars s_goods r_until r_rest r_ways r_inEach r_inAny r_firsts r_reasons r_keptInFirst r_swapAt r_swapGood l_bests l_kept l_enough l_known m_letterMany m_text m_readAt m_tokenAt m_token m_value m_faultAt m_read m_readChanges m_readStart m_readOnce m_readDays m_readWas m_readThen mq_now m_changeMany m_start m_changeDays m_was m_then m_undoMany m_undoAt m_undos m_isKept m_kept m_isKnown m_best m_firstCode m_rivalMany m_certain m_possible m_goods m_setKept m_lastKept m_lastFar m_swapMost hv4 (by omega) hI
    have hI0 := hI
    obtain ⟨tx, l, h, n, p, E, a, m, I, ⟨hT1, hT2, e1, e2⟩, ⟨hb, hc, hM⟩, ⟨hpb, hp1, hp2, hF'⟩, ⟨ha, hm, e3, e4, e5, e6, hq, hqm, hqb⟩, ⟨hi, him, hib⟩, hS, hl, hk⟩ := hI
    have e7 := hc.1
    have e8 := hp1.1
    have e9 := hp1.2.1
    have e10 := hp2.1
    have e11 := hp2.2.1
    have e12 := hF'.2
    subst e1; subst e2; subst e3; subst e4; subst e5; subst e6; subst e7; subst e8; subst e9; subst e10; subst e11; subst e12
    have hn := hb.1
    have h0 : s_goods 0 = nI 0 := hS.1.1
    rw [wp_L_law_h18]
    have eL : nI L - (4 : Int32) = zI ((L : Int) - 4) := by rw [zI_nI L]; exact zI_sub L 4
    rw [eL]
    refine cLT ((L : Int) - 4) (v : Int) rfl (zI_nI v) (by omega) (by omega) (fun _ => trivial) (fun q => ?_)
    have hv4 : v + 4 ≤ L := by omega
    have v0 : vp_in (nI v) L := vin (by omega) (by omega)
    have v1 : vp_in (nI v + 1) L := by rw [nI_addL]; exact vin (by omega) (by omega)
    have v2 : vp_in (nI v + 2) L := by rw [nI_addL]; exact vin (by omega) (by omega)
    have v3 : vp_in (nI v + 3) L := by rw [nI_addL]; exact vin (by omega) (by omega)
    refine ⟨v0, fun x hx => ⟨fun _ => hgo _ _ _ _ _ _ _ _ _ _ _ _ _ _ _ _ _ _ _ _ _ _ _ _ _ _ _ _ _ _ _ _ _ _ _ _ _ _ _ _ _ _ _ _ _ _ _ _ _ _ _ _ _ _ _ _ _ _ _ _ _ _ _ _ _ _ _ _ _ _ _ _ _ _ _ _ _ _ _ _ _ _ _ _ _ _ _ _ _ _ _ _ _ _ _ _ _ _ _ _ _ _  hv4 hI0, fun _ => ?_, fun _ => ?_, fun _ => ?_, fun _ => ?_, fun _ => ?_, fun _ => ?_, fun _ => ?_, fun _ => ?_, fun _ => ?_, fun _ => ?_, fun _ => ?_, fun _ => ?_, fun _ => ?_, fun _ => ?_, fun _ => ?_, fun _ => ?_, fun _ => ?_⟩⟩
    · refine ⟨v1, x_type hT1 (fun hs => ⟨v1, m_type hT2 (fun _ => eqr (hgo _ _ _ _ _ _ _ _ _ _ _ _ _ _ _ _ _ _ _ _ _ _ _ _ _ _ _ _ _ _ _ _ _ _ _ _ _ _ _ _ _ _ _ _ _ _ _ _ _ _ _ _ _ _ _ _ _ _ _ _ _ _ _ _ _ _ _ _ _ _ _ _ _ _ _ _ _ _ _ _ _ _ _ _ _ _ _ _ _ _ _ _ _ _ _ _ _ _ _ _ _ _  hv4 ⟨tx, l, h, n, p, E, a, m, I, ⟨hT1, hT2, rfl, rfl⟩, ⟨hb, hc, hM⟩, ⟨hpb, hp1, hp2, hF'⟩, ⟨ha, hm, rfl, rfl, rfl, rfl, hq, hqm, hqb⟩, ⟨hi, him, hib⟩, hS, hl, hk⟩)) (fun c1 c2 c3 => ?_)⟩) (fun c1 c2 c3 => ⟨v1, m_type hT2 (fun hs => ?_) (fun _ _ _ => eqr (hgo _ _ _ _ _ _ _ _ _ _ _ _ _ _ _ _ _ _ _ _ _ _ _ _ _ _ _ _ _ _ _ _ _ _ _ _ _ _ _ _ _ _ _ _ _ _ _ _ _ _ _ _ _ _ _ _ _ _ _ _ _ _ _ _ _ _ _ _ _ _ _ _ _ _ _ _ _ _ _ _ _ _ _ _ _ _ _ _ _ _ _ _ _ _ _ _ _ _ _ _ _ _  hv4 ⟨(txU tx l _), (l + 1), h, n, p, E, a, m, I, ⟨TXT_up hT1 c3 c1 c2, TXT_up hT2 c3 c1 c2, rfl, rfl⟩, ⟨hb, hc, hM⟩, ⟨hpb, hp1, hp2, hF'⟩, ⟨ha, hm, rfl, rfl, rfl, rfl, hq, hqm, hqb⟩, ⟨hi, him, hib⟩, hS, hl, hk⟩))⟩)⟩
      · exfalso
        rcases hs with (d | d) | d
        · exact c1 d
        · exact c2 d
        · omega
      · exfalso
        rcases hs with (d | d) | d
        · exact c1 d
        · exact c2 d
        · omega
    · unfold wp_X8_clear wp_X7_empty wp_X9_clear
      exact eqr (hgo _ _ _ _ _ _ _ _ _ _ _ _ _ _ _ _ _ _ _ _ _ _ _ _ _ _ _ _ _ _ _ _ _ _ _ _ _ _ _ _ _ _ _ _ _ _ _ _ _ _ _ _ _ _ _ _ _ _ _ _ _ _ _ _ _ _ _ _ _ _ _ _ _ _ _ _ _ _ _ _ _ _ _ _ _ _ _ _ _ _ _ _ _ _ _ _ _ _ _ _ _ _  hv4 ⟨tx, 0, h, n, p, E, a, m, I, ⟨TXT_0 tx _, TXT_0 tx _, rfl, rfl⟩, ⟨hb, hc, hM⟩, ⟨hpb, hp1, hp2, hF'⟩, ⟨ha, hm, rfl, rfl, rfl, rfl, hq, hqm, hqb⟩, ⟨hi, him, hib⟩, hS, hl, hk⟩)
    · refine x_house hT1 h0 (fun q hq0 ta tp tt tn b0 b1 b2 tr tw td tf tg tz ts ud uf ug uz => ?_) (fun st j hq1 hB xk rate wrap days firsts seconds ph pm start hia cd cf cs ta tp tt tn b0 b1 b2 tr tw td tf tg tz ts ud uf ug uz sd sf sg U r w e an fs rs kp s1 s2 hc' hp' hF2 hS' k0 k1 => ?_)
      · refine m_house hT2 (fun q' hq' a' b' c' d' e' r' u' v' w' x' y' z' => ?_) (fun st' j' hq' => ?_)
        · have := Sum.inl.inj (hq0.symm.trans hq')
          subst this
          exact eqr (hgo _ _ _ _ _ _ _ _ _ _ _ _ _ _ _ _ _ _ _ _ _ _ _ _ _ _ _ _ _ _ _ _ _ _ _ _ _ _ _ _ _ _ _ _ _ _ _ _ _ _ _ _ _ _ _ _ _ _ _ _ _ _ _ _ _ _ _ _ _ _ _ _ _ _ _ _ _ _ _ _ _ _ _ _ _ _ _ _ _ _ _ _ _ _ _ _ _ _ _ _ _ _  hv4 ⟨tx, l, h, n, p, E, a, m, I, ⟨hT1, hT2, rfl, rfl⟩, ⟨hb, hc, hM⟩, ⟨hpb, hp1, hp2, hF'⟩, ⟨ha, hm, rfl, rfl, rfl, rfl, hq, hqm, hqb⟩, ⟨hi, him, hib⟩, hS, hl, hk⟩)
        · exact absurd (hq0.symm.trans hq') (by simp)
      · refine m_house hT2 (fun q' hq' => absurd (hq1.symm.trans hq') (by simp)) (fun st' j' hq' a' b' c' d' e' r' u' v' w' x' y' z' now' start' cd' wa' th' ch' ik' hM' hp2' i0 i1 => ?_)
        obtain ⟨rfl, rfl⟩ := Prod.mk.inj (Sum.inr.inj (hq1.symm.trans hq'))
        exact eqr (hgo _ _ _ _ _ _ _ _ _ _ _ _ _ _ _ _ _ _ _ _ _ _ _ _ _ _ _ _ _ _ _ _ _ _ _ _ _ _ _ _ _ _ _ _ _ _ _ _ _ _ _ _ _ _ _ _ _ _ _ _ _ _ _ _ _ _ _ _ _ _ _ _ _ _ _ _ _ _ _ _ _ _ _ _ _ _ _ _ _ _ _ _ _ _ _ _ _ _ _ _ _ _  hv4 ⟨tx, 0, st.1.1, st.1.2, st.2.1, E, a, 0, (fun _ => none), ⟨TXT_0 tx _, TXT_0 tx _, rfl, rfl⟩, ⟨hB.1, hc', hM'⟩, ⟨hB.2, hp', hp2', hF2⟩, ⟨ha, Nat.zero_le _, rfl, rfl, rfl, rfl, fun j hj => absurd hj (Nat.not_lt_zero j), fun j hj => absurd hj (Nat.not_lt_zero j), fun j hj => absurd hj (Nat.not_lt_zero j)⟩, ⟨IC_0 k0 k1, IM_0 i0 i1, IB_0⟩, hS', Or.inl rfl, Or.inl rfl⟩)
    · exact ⟨v1, v2, x_reading hb hc hS ⟨v1, v2, m_reading hb hM hk (fun kn best first many cert poss goods t1 t2 t3 hk' => eqr (hgo _ _ _ _ _ _ _ _ _ _ _ _ _ _ _ _ _ _ _ _ _ _ _ _ _ _ _ _ _ _ _ _ _ _ _ _ _ _ _ _ _ _ _ _ _ _ _ _ _ _ _ _ _ _ _ _ _ _ _ _ _ _ _ _ _ _ _ _ _ _ _ _ _ _ _ _ _ _ _ _ _ _ _ _ _ _ _ _ _ _ _ _ _ _ _ _ _ _ _ _ _ _  hv4 ⟨tx, l, h, n, p, E, a, m, I, ⟨hT1, hT2, rfl, rfl⟩, ⟨hb, hc, hM⟩, ⟨hpb, hp1, hp2, hF'⟩, ⟨ha, hm, rfl, rfl, rfl, rfl, hq, hqm, hqb⟩, ⟨hi, him, hib⟩, hS, hl, hk'⟩))⟩⟩
    · exact ⟨v1, v2, x_change (dy := fun k => nI (pD p k)) hpb.1 (fun k hk => (hp1.2.2 k hk).1) (fun k hk => (hp1.2.2 k hk).2.1) (fun k hk => (hp1.2.2 k hk).2.2) hF' ⟨v1, v2, m_change (dy := fun k => nI (pD p k)) hpb (fun k hk => (hp2.2.2 k hk).1) (fun k hk => (hp2.2.2 k hk).2.1) (fun k hk => (hp2.2.2 k hk).2.2) (eqr (hgo _ _ _ _ _ _ _ _ _ _ _ _ _ _ _ _ _ _ _ _ _ _ _ _ _ _ _ _ _ _ _ _ _ _ _ _ _ _ _ _ _ _ _ _ _ _ _ _ _ _ _ _ _ _ _ _ _ _ _ _ _ _ _ _ _ _ _ _ _ _ _ _ _ _ _ _ _ _ _ _ _ _ _ _ _ _ _ _ _ _ _ _ _ _ _ _ _ _ _ _ _ _  hv4 ⟨tx, l, h, n, p, E, a, m, I, ⟨hT1, hT2, rfl, rfl⟩, ⟨hb, hc, hM⟩, ⟨hpb, hp1, hp2, hF'⟩, ⟨ha, hm, rfl, rfl, rfl, rfl, hq, hqm, hqb⟩, ⟨hi, him, hib⟩, hS, hl, hk⟩))⟩⟩
    · exact ⟨v1, x_now hS ⟨v1, m_now hb hM hk hpb (fun k hk => (hp2.2.2 k hk).2.1) (fun k hk => (hp2.2.2 k hk).2.2) (fun kn best first many cert poss goods t1 t2 t3 t4 hk' => eqr (hgo _ _ _ _ _ _ _ _ _ _ _ _ _ _ _ _ _ _ _ _ _ _ _ _ _ _ _ _ _ _ _ _ _ _ _ _ _ _ _ _ _ _ _ _ _ _ _ _ _ _ _ _ _ _ _ _ _ _ _ _ _ _ _ _ _ _ _ _ _ _ _ _ _ _ _ _ _ _ _ _ _ _ _ _ _ _ _ _ _ _ _ _ _ _ _ _ _ _ _ _ _ _  hv4 ⟨tx, l, h, n, p, E, a, m, I, ⟨hT1, hT2, rfl, rfl⟩, ⟨hb, hc, hM⟩, ⟨hpb, hp1, hp2, hF'⟩, ⟨ha, hm, rfl, rfl, rfl, rfl, hq, hqm, hqb⟩, ⟨hi, him, hib⟩, hS, hl, hk'⟩))⟩⟩
    · exact x_rivals hS (m_rivals hb hM hk (fun kn best first many cert poss goods t1 t2 t3 hk' => eql (hgo _ _ _ _ _ _ _ _ _ _ _ _ _ _ _ _ _ _ _ _ _ _ _ _ _ _ _ _ _ _ _ _ _ _ _ _ _ _ _ _ _ _ _ _ _ _ _ _ _ _ _ _ _ _ _ _ _ _ _ _ _ _ _ _ _ _ _ _ _ _ _ _ _ _ _ _ _ _ _ _ _ _ _ _ _ _ _ _ _ _ _ _ _ _ _ _ _ _ _ _ _ _  hv4 ⟨tx, l, h, n, p, E, a, m, I, ⟨hT1, hT2, rfl, rfl⟩, ⟨hb, hc, hM⟩, ⟨hpb, hp1, hp2, hF'⟩, ⟨ha, hm, rfl, rfl, rfl, rfl, hq, hqm, hqb⟩, ⟨hi, him, hib⟩, hS, hl, hk'⟩)))
    · refine ⟨v1, v2, v3, x_adds hb hc h0 ha hm hq (fun hB => ?_) (fun hg hn10 => ?_) (fun hg hn10 D' F' G' R W S D F2 G sd sf sg U r w e an fs rs kp s1 s2 hc' hq' hS' => ?_)⟩
      · exact ⟨v1, v2, v3, m_adds hb hM ha hm hqm hqb (fun _ => eqr (hgo _ _ _ _ _ _ _ _ _ _ _ _ _ _ _ _ _ _ _ _ _ _ _ _ _ _ _ _ _ _ _ _ _ _ _ _ _ _ _ _ _ _ _ _ _ _ _ _ _ _ _ _ _ _ _ _ _ _ _ _ _ _ _ _ _ _ _ _ _ _ _ _ _ _ _ _ _ _ _ _ _ _ _ _ _ _ _ _ _ _ _ _ _ _ _ _ _ _ _ _ _ _  hv4 ⟨tx, l, h, n, p, E, a, m, I, ⟨hT1, hT2, rfl, rfl⟩, ⟨hb, hc, hM⟩, ⟨hpb, hp1, hp2, hF'⟩, ⟨ha, hm, rfl, rfl, rfl, rfl, hq, hqm, hqb⟩, ⟨hi, him, hib⟩, hS, hl, hk⟩)) (fun hg _ => absurd hB hg) (fun hg _ => absurd hB hg)⟩
      · exact ⟨v1, v2, v3, m_adds hb hM ha hm hqm hqb (fun hB => absurd hB hg) (fun _ _ => eqr (hgo _ _ _ _ _ _ _ _ _ _ _ _ _ _ _ _ _ _ _ _ _ _ _ _ _ _ _ _ _ _ _ _ _ _ _ _ _ _ _ _ _ _ _ _ _ _ _ _ _ _ _ _ _ _ _ _ _ _ _ _ _ _ _ _ _ _ _ _ _ _ _ _ _ _ _ _ _ _ _ _ _ _ _ _ _ _ _ _ _ _ _ _ _ _ _ _ _ _ _ _ _ _  hv4 ⟨tx, l, h, n, p, E, a, m, I, ⟨hT1, hT2, rfl, rfl⟩, ⟨hb, hc, hM⟩, ⟨hpb, hp1, hp2, hF'⟩, ⟨ha, hm, rfl, rfl, rfl, rfl, hq, hqm, hqb⟩, ⟨hi, him, hib⟩, hS, hl, hk⟩)) (fun _ hn' => by omega)⟩
      · exact ⟨v1, v2, v3, m_adds hb hM ha hm hqm hqb (fun hB => absurd hB hg) (fun _ hn' => by omega) (fun _ _ now' undos' hM' hqm' => eqr (hgo _ _ _ _ _ _ _ _ _ _ _ _ _ _ _ _ _ _ _ _ _ _ _ _ _ _ _ _ _ _ _ _ _ _ _ _ _ _ _ _ _ _ _ _ _ _ _ _ _ _ _ _ _ _ _ _ _ _ _ _ _ _ _ _ _ _ _ _ _ _ _ _ _ _ _ _ _ _ _ _ _ _ _ _ _ _ _ _ _ _ _ _ _ _ _ _ _ _ _ _ _ _  hv4 ⟨tx, l, (AH h n _ _ _), (n + 1), p, (eup E a (h, n)), (a1 a), (mp m), I, ⟨hT1, hT2, rfl, rfl⟩, ⟨HB_AH hb hn10 hg, hc', hM'⟩, ⟨hpb, hp1, hp2, hF'⟩, ⟨a1_lt a, mp_le hm, rfl, rfl, rfl, rfl, hq', hqm', QB_up ha hqb hb⟩, ⟨hi, him, hib⟩, hS', Or.inl rfl, Or.inl rfl⟩))⟩
    · refine ⟨v1, x_strikes hb hc h0 ha hm hq (fun hB => ?_) (fun k hkn hkp D' F' G' R W S D F2 G sd sf sg U r w e an fs rs kp s1 s2 hc' hq' hS' => ?_)⟩
      · refine ⟨v1, m_strikes hb hM ha hm hqm hqb (fun _ => eqr (hgo _ _ _ _ _ _ _ _ _ _ _ _ _ _ _ _ _ _ _ _ _ _ _ _ _ _ _ _ _ _ _ _ _ _ _ _ _ _ _ _ _ _ _ _ _ _ _ _ _ _ _ _ _ _ _ _ _ _ _ _ _ _ _ _ _ _ _ _ _ _ _ _ _ _ _ _ _ _ _ _ _ _ _ _ _ _ _ _ _ _ _ _ _ _ _ _ _ _ _ _ _ _  hv4 ⟨tx, l, h, n, p, E, a, m, I, ⟨hT1, hT2, rfl, rfl⟩, ⟨hb, hc, hM⟩, ⟨hpb, hp1, hp2, hF'⟩, ⟨ha, hm, rfl, rfl, rfl, rfl, hq, hqm, hqb⟩, ⟨hi, him, hib⟩, hS, hl, hk⟩)) (fun k' hkn' hkp' => ?_)⟩
        exfalso
        rw [hkp'] at hB
        rcases hB with d | d
        · exact nI_pos (by omega) d
        · exact nI_ge hkn' (by omega) d
      · refine ⟨v1, m_strikes hb hM ha hm hqm hqb (fun hB => ?_) (fun k' hkn' hkp' now' undos' hM' hqm' => ?_)⟩
        · exfalso
          rw [hkp] at hB
          rcases hB with d | d
          · exact nI_pos (by omega) d
          · exact nI_ge hkn (by omega) d
        · have := nI_inj (by omega) (by omega) hkp hkp'
          subst this
          exact eqr (hgo _ _ _ _ _ _ _ _ _ _ _ _ _ _ _ _ _ _ _ _ _ _ _ _ _ _ _ _ _ _ _ _ _ _ _ _ _ _ _ _ _ _ _ _ _ _ _ _ _ _ _ _ _ _ _ _ _ _ _ _ _ _ _ _ _ _ _ _ _ _ _ _ _ _ _ _ _ _ _ _ _ _ _ _ _ _ _ _ _ _ _ _ _ _ _ _ _ _ _ _ _ _  hv4 ⟨tx, l, (hRem h k), (n - 1), p, (eup E a (h, n)), (a1 a), (mp m), I, ⟨hT1, hT2, rfl, rfl⟩, ⟨HB_rem hb hkn, hc', hM'⟩, ⟨hpb, hp1, hp2, hF'⟩, ⟨a1_lt a, mp_le hm, rfl, rfl, rfl, rfl, hq', hqm', QB_up ha hqb hb⟩, ⟨hi, him, hib⟩, hS', Or.inl rfl, Or.inl rfl⟩)
    · refine ⟨v1, v2, x_rules hb hc h0 ha hm hq (fun hB => ?_) (fun hg rr ww hrr hww hp hp' R W S D F2 G sd sf sg U r w e an fs rs kp s1 s2 hc' hq' hS' => ?_)⟩
      · exact ⟨v1, v2, m_rules hb hM ha hm hqm hqb (fun _ => eqr (hgo _ _ _ _ _ _ _ _ _ _ _ _ _ _ _ _ _ _ _ _ _ _ _ _ _ _ _ _ _ _ _ _ _ _ _ _ _ _ _ _ _ _ _ _ _ _ _ _ _ _ _ _ _ _ _ _ _ _ _ _ _ _ _ _ _ _ _ _ _ _ _ _ _ _ _ _ _ _ _ _ _ _ _ _ _ _ _ _ _ _ _ _ _ _ _ _ _ _ _ _ _ _  hv4 ⟨tx, l, h, n, p, E, a, m, I, ⟨hT1, hT2, rfl, rfl⟩, ⟨hb, hc, hM⟩, ⟨hpb, hp1, hp2, hF'⟩, ⟨ha, hm, rfl, rfl, rfl, rfl, hq, hqm, hqb⟩, ⟨hi, him, hib⟩, hS, hl, hk⟩)) (fun hg => absurd hB hg)⟩
      · refine ⟨v1, v2, m_rules hb hM ha hm hqm hqb (fun hB => absurd hB hg) (fun _ rr' ww' hrr' hww' hp2' hp2'' now' undos' best first many cert poss goods s1' s2' s3' hM' hqm' hK' => ?_)⟩
        have q1 := nI_inj (by omega) (by omega) hp hp2'
        have q2 := nI_inj (by omega) (by omega) hp' hp2''
        subst q1; subst q2
        exact eqr (hgo _ _ _ _ _ _ _ _ _ _ _ _ _ _ _ _ _ _ _ _ _ _ _ _ _ _ _ _ _ _ _ _ _ _ _ _ _ _ _ _ _ _ _ _ _ _ _ _ _ _ _ _ _ _ _ _ _ _ _ _ _ _ _ _ _ _ _ _ _ _ _ _ _ _ _ _ _ _ _ _ _ _ _ _ _ _ _ _ _ _ _ _ _ _ _ _ _ _ _ _ _ _  hv4 ⟨tx, l, (hRul h rr ww), n, p, (eup E a (h, n)), (a1 a), (mp m), I, ⟨hT1, hT2, rfl, rfl⟩, ⟨HB_rul hb hrr hww, hc', hM'⟩, ⟨hpb, hp1, hp2, hF'⟩, ⟨a1_lt a, mp_le hm, rfl, rfl, rfl, rfl, hq', hqm', QB_up ha hqb hb⟩, ⟨hi, him, hib⟩, hS', Or.inl rfl, Or.inr ⟨rfl, hK'⟩⟩)
    · refine x_undo hc h0 ha hm hq hqb (fun hm0 => ?_) (fun hm0 rate wrap D' F' G' sd sf sg U r w e an fs rs kp s1 s2 hc' hS' => ?_)
      · exact m_undo ha hm hqm hqb (fun _ => eqr (hgo _ _ _ _ _ _ _ _ _ _ _ _ _ _ _ _ _ _ _ _ _ _ _ _ _ _ _ _ _ _ _ _ _ _ _ _ _ _ _ _ _ _ _ _ _ _ _ _ _ _ _ _ _ _ _ _ _ _ _ _ _ _ _ _ _ _ _ _ _ _ _ _ _ _ _ _ _ _ _ _ _ _ _ _ _ _ _ _ _ _ _ _ _ _ _ _ _ _ _ _ _ _  hv4 ⟨tx, l, h, n, p, E, a, m, I, ⟨hT1, hT2, rfl, rfl⟩, ⟨hb, hc, hM⟩, ⟨hpb, hp1, hp2, hF'⟩, ⟨ha, hm, rfl, rfl, rfl, rfl, hq, hqm, hqb⟩, ⟨hi, him, hib⟩, hS, hl, hk⟩)) (fun hm0' => by omega)
      · exact m_undo ha hm hqm hqb (fun hm0' => by omega) (fun _ now' hM' => eqr (hgo _ _ _ _ _ _ _ _ _ _ _ _ _ _ _ _ _ _ _ _ _ _ _ _ _ _ _ _ _ _ _ _ _ _ _ _ _ _ _ _ _ _ _ _ _ _ _ _ _ _ _ _ _ _ _ _ _ _ _ _ _ _ _ _ _ _ _ _ _ _ _ _ _ _ _ _ _ _ _ _ _ _ _ _ _ _ _ _ _ _ _ _ _ _ _ _ _ _ _ _ _ _  hv4 ⟨tx, l, (E ((a + 9) % 10)).1, (E ((a + 9) % 10)).2, p, E, ((a + 9) % 10), (m - 1), I, ⟨hT1, hT2, rfl, rfl⟩, ⟨hqb 0 hm0, hc', hM'⟩, ⟨hpb, hp1, hp2, hF'⟩, ⟨Nat.mod_lt _ (by decide), by omega, rfl, rfl, rfl, rfl, QC_un hm0 ha hm hq, QM_un hm0 ha hm hqm, QB_un hm0 ha hm hqb⟩, ⟨hi, him, hib⟩, hS', Or.inl rfl, Or.inl rfl⟩))
    · exact ⟨v1, v2, x_on hb hc.2.1 hS ⟨v1, v2, m_on hb hM hk (fun kn best first many cert poss goods t1 t2 t3 hk' => eqr (hgo _ _ _ _ _ _ _ _ _ _ _ _ _ _ _ _ _ _ _ _ _ _ _ _ _ _ _ _ _ _ _ _ _ _ _ _ _ _ _ _ _ _ _ _ _ _ _ _ _ _ _ _ _ _ _ _ _ _ _ _ _ _ _ _ _ _ _ _ _ _ _ _ _ _ _ _ _ _ _ _ _ _ _ _ _ _ _ _ _ _ _ _ _ _ _ _ _ _ _ _ _ _  hv4 ⟨tx, l, h, n, p, E, a, m, I, ⟨hT1, hT2, rfl, rfl⟩, ⟨hb, hc, hM⟩, ⟨hpb, hp1, hp2, hF'⟩, ⟨ha, hm, rfl, rfl, rfl, rfl, hq, hqm, hqb⟩, ⟨hi, him, hib⟩, hS, hl, hk'⟩))⟩⟩
    · exact ⟨v1, x_plate (dy := fun k => nI (pD p k)) hpb.1 (fun k hk => (hp1.2.2 k hk).1) (fun k hk => (hp1.2.2 k hk).2.2) hF' ⟨v1, m_plate (dy := fun k => nI (pD p k)) hpb (fun k hk => (hp2.2.2 k hk).1) (fun k hk => (hp2.2.2 k hk).2.1) (fun k hk => (hp2.2.2 k hk).2.2) (eqr (hgo _ _ _ _ _ _ _ _ _ _ _ _ _ _ _ _ _ _ _ _ _ _ _ _ _ _ _ _ _ _ _ _ _ _ _ _ _ _ _ _ _ _ _ _ _ _ _ _ _ _ _ _ _ _ _ _ _ _ _ _ _ _ _ _ _ _ _ _ _ _ _ _ _ _ _ _ _ _ _ _ _ _ _ _ _ _ _ _ _ _ _ _ _ _ _ _ _ _ _ _ _ _  hv4 ⟨tx, l, h, n, p, E, a, m, I, ⟨hT1, hT2, rfl, rfl⟩, ⟨hb, hc, hM⟩, ⟨hpb, hp1, hp2, hF'⟩, ⟨ha, hm, rfl, rfl, rfl, rfl, hq, hqm, hqb⟩, ⟨hi, him, hib⟩, hS, hl, hk⟩))⟩⟩
    · exact ⟨v1, v2, v3, x_odds hb hc.2.1 hS.1 hl (fun bests kp en kn' hl' => ⟨v1, v2, v3, m_odds hb hM hk (fun kn best first many cert poss goods t1 t2 t3 hk' => eql (hgo _ _ _ _ _ _ _ _ _ _ _ _ _ _ _ _ _ _ _ _ _ _ _ _ _ _ _ _ _ _ _ _ _ _ _ _ _ _ _ _ _ _ _ _ _ _ _ _ _ _ _ _ _ _ _ _ _ _ _ _ _ _ _ _ _ _ _ _ _ _ _ _ _ _ _ _ _ _ _ _ _ _ _ _ _ _ _ _ _ _ _ _ _ _ _ _ _ _ _ _ _ _  hv4 ⟨tx, l, h, n, p, E, a, m, I, ⟨hT1, hT2, rfl, rfl⟩, ⟨hb, hc, hM⟩, ⟨hpb, hp1, hp2, hF'⟩, ⟨ha, hm, rfl, rfl, rfl, rfl, hq, hqm, hqb⟩, ⟨hi, him, hib⟩, hS, hl', hk'⟩))⟩)⟩
    · refine ⟨v1, x_keep hn hc hi (fun hB => ?_) (fun k hk2 hkp xk R W S D F2 G hi' => ?_)⟩
      · refine ⟨v1, m_keep hn hM him hib (fun _ => eqr (hgo _ _ _ _ _ _ _ _ _ _ _ _ _ _ _ _ _ _ _ _ _ _ _ _ _ _ _ _ _ _ _ _ _ _ _ _ _ _ _ _ _ _ _ _ _ _ _ _ _ _ _ _ _ _ _ _ _ _ _ _ _ _ _ _ _ _ _ _ _ _ _ _ _ _ _ _ _ _ _ _ _ _ _ _ _ _ _ _ _ _ _ _ _ _ _ _ _ _ _ _ _ _  hv4 ⟨tx, l, h, n, p, E, a, m, I, ⟨hT1, hT2, rfl, rfl⟩, ⟨hb, hc, hM⟩, ⟨hpb, hp1, hp2, hF'⟩, ⟨ha, hm, rfl, rfl, rfl, rfl, hq, hqm, hqb⟩, ⟨hi, him, hib⟩, hS, hl, hk⟩)) (fun k' hk2' hkp' => ?_)⟩
        exfalso
        rw [hkp'] at hB
        rcases hB with d | d
        · exact nI_pos (by omega) d
        · exact nI_nlt (a := 1) (b := k') (by omega) (by decide) d
      · refine ⟨v1, m_keep hn hM him hib (fun hB => ?_) (fun k' hk2' hkp' ik kept him' => ?_)⟩
        · exfalso
          rw [hkp] at hB
          rcases hB with d | d
          · exact nI_pos (by omega) d
          · exact nI_nlt (a := 1) (b := k) (by omega) (by decide) d
        · have := nI_inj (by omega) (by omega) hkp hkp'
          subst this
          exact eqr (hgo _ _ _ _ _ _ _ _ _ _ _ _ _ _ _ _ _ _ _ _ _ _ _ _ _ _ _ _ _ _ _ _ _ _ _ _ _ _ _ _ _ _ _ _ _ _ _ _ _ _ _ _ _ _ _ _ _ _ _ _ _ _ _ _ _ _ _ _ _ _ _ _ _ _ _ _ _ _ _ _ _ _ _ _ _ _ _ _ _ _ _ _ _ _ _ _ _ _ _ _ _ _  hv4 ⟨tx, l, h, n, p, E, a, m, (iup I k (h, n)), ⟨hT1, hT2, rfl, rfl⟩, ⟨hb, hc, hM⟩, ⟨hpb, hp1, hp2, hF'⟩, ⟨ha, hm, rfl, rfl, rfl, rfl, hq, hqm, hqb⟩, ⟨hi', him', IB_up hib hb⟩, hS, hl, hk⟩)
    · refine ⟨v1, x_back hc h0 hi hib (fun hB => ?_) (fun k hk2 hkp hno => ?_) (fun k y hk2 hkp hy rate wrap D' F' G' sd sf sg U r w e an fs rs kp s1 s2 hc' hS' => ?_)⟩
      · refine ⟨v1, m_back him hib (fun _ => eqr (hgo _ _ _ _ _ _ _ _ _ _ _ _ _ _ _ _ _ _ _ _ _ _ _ _ _ _ _ _ _ _ _ _ _ _ _ _ _ _ _ _ _ _ _ _ _ _ _ _ _ _ _ _ _ _ _ _ _ _ _ _ _ _ _ _ _ _ _ _ _ _ _ _ _ _ _ _ _ _ _ _ _ _ _ _ _ _ _ _ _ _ _ _ _ _ _ _ _ _ _ _ _ _  hv4 ⟨tx, l, h, n, p, E, a, m, I, ⟨hT1, hT2, rfl, rfl⟩, ⟨hb, hc, hM⟩, ⟨hpb, hp1, hp2, hF'⟩, ⟨ha, hm, rfl, rfl, rfl, rfl, hq, hqm, hqb⟩, ⟨hi, him, hib⟩, hS, hl, hk⟩)) (fun k' hk2' hkp' => ?_) (fun k' y' hk2' hkp' => ?_)⟩
        all_goals
          exfalso
          rw [hkp'] at hB
          rcases hB with d | d
          · exact nI_pos (by omega) d
          · exact nI_nlt (a := 1) (b := k') (by omega) (by decide) d
      · refine ⟨v1, m_back him hib (fun hB => ?_) (fun k' hk2' hkp' hno' => eqr (hgo _ _ _ _ _ _ _ _ _ _ _ _ _ _ _ _ _ _ _ _ _ _ _ _ _ _ _ _ _ _ _ _ _ _ _ _ _ _ _ _ _ _ _ _ _ _ _ _ _ _ _ _ _ _ _ _ _ _ _ _ _ _ _ _ _ _ _ _ _ _ _ _ _ _ _ _ _ _ _ _ _ _ _ _ _ _ _ _ _ _ _ _ _ _ _ _ _ _ _ _ _ _  hv4 ⟨tx, l, h, n, p, E, a, m, I, ⟨hT1, hT2, rfl, rfl⟩, ⟨hb, hc, hM⟩, ⟨hpb, hp1, hp2, hF'⟩, ⟨ha, hm, rfl, rfl, rfl, rfl, hq, hqm, hqb⟩, ⟨hi, him, hib⟩, hS, hl, hk⟩)) (fun k' y' hk2' hkp' hy' => ?_)⟩
        · exfalso
          rw [hkp] at hB
          rcases hB with d | d
          · exact nI_pos (by omega) d
          · exact nI_nlt (a := 1) (b := k) (by omega) (by decide) d
        · exfalso
          have := nI_inj (by omega) (by omega) hkp hkp'
          subst this
          rw [hno] at hy'; cases hy'
      · refine ⟨v1, m_back him hib (fun hB => ?_) (fun k' hk2' hkp' hno' => ?_) (fun k' y' hk2' hkp' hy' now' hM' => ?_)⟩
        · exfalso
          rw [hkp] at hB
          rcases hB with d | d
          · exact nI_pos (by omega) d
          · exact nI_nlt (a := 1) (b := k) (by omega) (by decide) d
        · exfalso
          have := nI_inj (by omega) (by omega) hkp hkp'
          subst this
          rw [hy] at hno'; cases hno'
        · have := nI_inj (by omega) (by omega) hkp hkp'
          subst this
          have := Option.some.inj (hy.symm.trans hy')
          subst this
          exact eqr (hgo _ _ _ _ _ _ _ _ _ _ _ _ _ _ _ _ _ _ _ _ _ _ _ _ _ _ _ _ _ _ _ _ _ _ _ _ _ _ _ _ _ _ _ _ _ _ _ _ _ _ _ _ _ _ _ _ _ _ _ _ _ _ _ _ _ _ _ _ _ _ _ _ _ _ _ _ _ _ _ _ _ _ _ _ _ _ _ _ _ _ _ _ _ _ _ _ _ _ _ _ _ _  hv4 ⟨tx, l, y.1, y.2, p, E, a, 0, I, ⟨hT1, hT2, rfl, rfl⟩, ⟨hib k hk2 y hy, hc', hM'⟩, ⟨hpb, hp1, hp2, hF'⟩, ⟨ha, Nat.zero_le _, rfl, rfl, rfl, rfl, fun j hj => absurd hj (Nat.not_lt_zero j), fun j hj => absurd hj (Nat.not_lt_zero j), fun j hj => absurd hj (Nat.not_lt_zero j)⟩, ⟨hi, him, hib⟩, hS', Or.inl rfl, Or.inl rfl⟩)
    · exact ⟨v1, x_count hc ⟨v1, m_count hM (eqr (hgo _ _ _ _ _ _ _ _ _ _ _ _ _ _ _ _ _ _ _ _ _ _ _ _ _ _ _ _ _ _ _ _ _ _ _ _ _ _ _ _ _ _ _ _ _ _ _ _ _ _ _ _ _ _ _ _ _ _ _ _ _ _ _ _ _ _ _ _ _ _ _ _ _ _ _ _ _ _ _ _ _ _ _ _ _ _ _ _ _ _ _ _ _ _ _ _ _ _ _ _ _ _  hv4 ⟨tx, l, h, n, p, E, a, m, I, ⟨hT1, hT2, rfl, rfl⟩, ⟨hb, hc, hM⟩, ⟨hpb, hp1, hp2, hF'⟩, ⟨ha, hm, rfl, rfl, rfl, rfl, hq, hqm, hqb⟩, ⟨hi, him, hib⟩, hS, hl, hk⟩))⟩⟩
theorem law_ok (L : Nat) (xs : Nat → Int32) (hL : L ≤ 2048) : wp_L_law L xs := by
  unfold wp_L_law wp_X8_init wp_X8_init_b125
  have hC0 : HC h00 0 20 0 0 (fun _ => 0) (fun _ => 0) (fun _ => 0) := ⟨rfl, rfl, rfl, fun k hk => absurd hk (Nat.not_lt_zero k)⟩
  have hP0 : ∀ cd cf cs : Nat → Int32, PC p00 0 cd cf cs 0 := fun _ _ _ => ⟨rfl, rfl, fun k hk => absurd hk (Nat.not_lt_zero k)⟩
  refine x_repair (sg := fun _ => 0) HB_00 hC0 rfl (fun sd sf sg U r w e an fs rs kp s1 s2 hS => ?_)
  refine x_follow (w := pW p00) (t := pT p00) (n := pN p00) (s := pS p00) PTB_00 (fun k hk => absurd hk (Nat.not_lt_zero k)) (fun k hk => absurd hk (Nat.not_lt_zero k)) (fun ph pm hia hF => ?_)
  unfold wp_X9_init wp_X9_init_b109
  refine m_begins (fun read hM => ?_)
  refine m_tellsAll (by decide) hM (fun now cd wa th ik hM' hcd k0 k1 => ?_)
  refine ⟨L + 1, ?_⟩
  exact law_loop L xs hL (L + 1) 0 _ _ _ _ _ _ _ _ _ _ _ _ _ _ _ _ _ _ _ _ _ _ _ _ _ _ _ _ _ _ _ _ _ _ _ _ _ _ _ _ _ _ _ _ _ _ _ _ _ _ _ _ _ _ _ _ _ _ _ _ _ _ _ _ _ _ _ _ _ _ _ _ _ _ _ _ _ _ _ _ _ _ _ _ _ _ _ _ _ _ _ _ _ _ _ _ _ _ _ _ _ _  (Nat.zero_le _) (by omega) ⟨fun _ => 0, 0, h00, 0, p00, fun _ => (h00, 0), 0, 0, fun _ => none, ⟨TXT_0 _ _, TXT_0 _ _, rfl, rfl⟩, ⟨HB_00, hC0, hM'⟩, ⟨PTB_00, hP0 _ _ _, hP0 _ _ _, hF⟩, ⟨by decide, by decide, rfl, rfl, rfl, rfl, fun j hj => absurd hj (Nat.not_lt_zero j), fun j hj => absurd hj (Nat.not_lt_zero j), fun j hj => absurd hj (Nat.not_lt_zero j)⟩, ⟨IC_0 rfl rfl, IM_0 k0 k1, IB_0⟩, hS, Or.inl rfl, Or.inl rfl⟩
