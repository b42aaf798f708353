abbrev rm_X8_count : Room := { frames := 0, cells := 0, slots := 0, locals := 0 }
set_option maxHeartbeats 4000000 in
set_option maxRecDepth 100000 in
theorem c_X8_count (l : Launch) (dC : Nat → ClassId) (dI : Nat → Nat → Nat) (cI cJ cZ cH : ClassId) (aX : Nat) (aXi : Nat) (aXk : Nat) (aH : Nat) (aE : Nat) (aEd : Nat) (aEf : Nat) (aEs : Nat) (aP : Nat) (aPh : Nat) (aPm : Nat) (acE : Nat) (acEd : Nat) (acEf : Nat) (acEs : Nat) (aT : Nat) (aTl : Nat) (atH : Nat) (atE : Nat) (atEd : Nat) (atEf : Nat) (atEs : Nat) (atP : Nat) (atPh : Nat) (atPm : Nat) (atcE : Nat) (atcEd : Nat) (atcEf : Nat) (atcEs : Nat) (aQ : Nat) (aQa : Nat) (qH : Nat → Nat) (qE : Nat → Nat) (qD : Nat → Nat) (qF : Nat → Nat) (qS : Nat → Nat) (iH : Nat → Nat) (iE : Nat → Nat) (iD : Nat → Nat) (iF : Nat → Nat) (iS : Nat → Nat) (aS : Nat) (aSd : Nat) (aSf : Nat) (aSg : Nat) (aR : Nat) (aRu : Nat) (aRr : Nat) (aRw : Nat) (aRe : Nat) (aRa : Nat) (aRf : Nat) (aRs : Nat) (aL : Nat) (aLb : Nat) (aLk : Nat) (aLe : Nat) (sz : Nat) (x_kept : Nat → Int32) (h_rate : Int32) (h_wrap : Int32) (e_days : Nat → Int32) (e_firsts : Nat → Int32) (e_seconds : Nat → Int32) (e_size : Int32) (p_held : Nat → Int32) (p_most : Nat → Int32) (p_start : Int32) (p_heldInAll : Int32) (ce_days : Nat → Int32) (ce_firsts : Nat → Int32) (ce_seconds : Nat → Int32) (ce_size : Int32) (t_letters : Nat → Int32) (t_length : Int32) (t_at : Int32) (t_place : Int32) (t_token : Int32) (t_number : Int32) (t_rateTold : Int32) (t_wrapTold : Int32) (t_startTold : Int32) (th_rate : Int32) (th_wrap : Int32) (te_days : Nat → Int32) (te_firsts : Nat → Int32) (te_seconds : Nat → Int32) (te_size : Int32) (tp_held : Nat → Int32) (tp_most : Nat → Int32) (tp_start : Int32) (tp_heldInAll : Int32) (tce_days : Nat → Int32) (tce_firsts : Nat → Int32) (tce_seconds : Nat → Int32) (tce_size : Int32) (q_size : Int32) (q_next : Int32) (qh_rate : Nat → Int32) (qh_wrap : Nat → Int32) (qe_size : Nat → Int32) (qe_days : Nat → Nat → Int32) (qe_firsts : Nat → Nat → Int32) (qe_seconds : Nat → Nat → Int32) (ih_rate : Nat → Int32) (ih_wrap : Nat → Int32) (ie_size : Nat → Int32) (ie_days : Nat → Nat → Int32) (ie_firsts : Nat → Nat → Int32) (ie_seconds : Nat → Nat → Int32) (s_days : Nat → Int32) (s_fars : Nat → Int32) (s_goods : Nat → Int32) (r_until : Nat → Int32) (r_rest : Nat → Int32) (r_ways : Nat → Int64) (r_inEach : Nat → Int32) (r_inAny : Nat → Int32) (r_firsts : Nat → Int32) (r_reasons : Nat → Int32) (r_keptInFirst : Int32) (r_swapAt : Int32) (r_swapGood : Int32) (l_bests : Nat → Int32) (l_kept : Nat → Int32) (l_enough : Nat → Int32) (l_known : Int32) (p1 : Int32) {Q : Int32 → Prop} (hf : wp_X8_count h_rate h_wrap e_size p_start ce_size t_length p1 Q) : Met l yX8_count (.code yX8_count cX8_count 2 (some .int) :: GW) rm_X8_count (va_Pc [.ref aX, .int p1] (PX (dC, dI) cI cJ cZ cH (wd_X8 cI cJ cZ cH aX aXi aXk aH aE aEd aEf aEs aP aPh aPm acE acEd acEf acEs aT aTl atH atE atEd atEf atEs atP atPh atPm atcE atcEd atcEf atcEs aQ aQa qH qE qD qF qS iH iE iD iF iS aS aSd aSf aSg aR aRu aRr aRw aRe aRa aRf aRs aL aLb aLk aLe x_kept h_rate h_wrap e_days e_firsts e_seconds e_size p_held p_most p_start p_heldInAll ce_days ce_firsts ce_seconds ce_size t_letters t_length t_at t_place t_token t_number t_rateTold t_wrapTold t_startTold th_rate th_wrap te_days te_firsts te_seconds te_size tp_held tp_most tp_start tp_heldInAll tce_days tce_firsts tce_seconds tce_size q_size q_next qh_rate qh_wrap qe_size qe_days qe_firsts qe_seconds ih_rate ih_wrap ie_size ie_days ie_firsts ie_seconds s_days s_fars s_goods r_until r_rest r_ways r_inEach r_inAny r_firsts r_reasons r_keptInFirst r_swapAt r_swapGood l_bests l_kept l_enough l_known) sz)) (va_Qi (fun (r : Int32) (_u : Unit) => Q r ) (fun u t => BX (dC, dI) (wd_X8 cI cJ cZ cH aX aXi aXk aH aE aEd aEf aEs aP aPh aPm acE acEd acEf acEs aT aTl atH atE atEd atEf atEs atP atPh atPm atcE atcEd atcEf atcEs aQ aQa qH qE qD qF qS iH iE iD iF iS aS aSd aSf aSg aR aRu aRr aRw aRe aRa aRf aRs aL aLb aLk aLe x_kept h_rate h_wrap e_days e_firsts e_seconds e_size p_held p_most p_start p_heldInAll ce_days ce_firsts ce_seconds ce_size t_letters t_length t_at t_place t_token t_number t_rateTold t_wrapTold t_startTold th_rate th_wrap te_days te_firsts te_seconds te_size tp_held tp_most tp_start tp_heldInAll tce_days tce_firsts tce_seconds tce_size q_size q_next qh_rate qh_wrap qe_size qe_days qe_firsts qe_seconds ih_rate ih_wrap ie_size ie_days ie_firsts ie_seconds s_days s_fars s_goods r_until r_rest r_ways r_inEach r_inAny r_firsts r_reasons r_keptInFirst r_swapAt r_swapGood l_bests l_kept l_enough l_known) (va_A (wd_X8 cI cJ cZ cH aX aXi aXk aH aE aEd aEf aEs aP aPh aPm acE acEd acEf acEs aT aTl atH atE atEd atEf atEs atP atPh atPm atcE atcEd atcEf atcEs aQ aQa qH qE qD qF qS iH iE iD iF iS aS aSd aSf aSg aR aRu aRr aRw aRe aRa aRf aRs aL aLb aLk aLe x_kept h_rate h_wrap e_days e_firsts e_seconds e_size p_held p_most p_start p_heldInAll ce_days ce_firsts ce_seconds ce_size t_letters t_length t_at t_place t_token t_number t_rateTold t_wrapTold t_startTold th_rate th_wrap te_days te_firsts te_seconds te_size tp_held tp_most tp_start tp_heldInAll tce_days tce_firsts tce_seconds tce_size q_size q_next qh_rate qh_wrap qe_size qe_days qe_firsts qe_seconds ih_rate ih_wrap ie_size ie_days ie_firsts ie_seconds s_days s_fars s_goods r_until r_rest r_ways r_inEach r_inAny r_firsts r_reasons r_keptInFirst r_swapAt r_swapGood l_bests l_kept l_enough l_known) sz) t) (va_A (wd_X8 cI cJ cZ cH aX aXi aXk aH aE aEd aEf aEs aP aPh aPm acE acEd acEf acEs aT aTl atH atE atEd atEf atEs atP atPh atPm atcE atcEd atcEf atcEs aQ aQa qH qE qD qF qS iH iE iD iF iS aS aSd aSf aSg aR aRu aRr aRw aRe aRa aRf aRs aL aLb aLk aLe x_kept h_rate h_wrap e_days e_firsts e_seconds e_size p_held p_most p_start p_heldInAll ce_days ce_firsts ce_seconds ce_size t_letters t_length t_at t_place t_token t_number t_rateTold t_wrapTold t_startTold th_rate th_wrap te_days te_firsts te_seconds te_size tp_held tp_most tp_start tp_heldInAll tce_days tce_firsts tce_seconds tce_size q_size q_next qh_rate qh_wrap qe_size qe_days qe_firsts qe_seconds ih_rate ih_wrap ie_size ie_days ie_firsts ie_seconds s_days s_fars s_goods r_until r_rest r_ways r_inEach r_inAny r_firsts r_reasons r_keptInFirst r_swapAt r_swapGood l_bests l_kept l_enough l_known) sz)) 0 0 (va_A (wd_X8 cI cJ cZ cH aX aXi aXk aH aE aEd aEf aEs aP aPh aPm acE acEd acEf acEs aT aTl atH atE atEd atEf atEs atP atPh atPm atcE atcEd atcEf atcEs aQ aQa qH qE qD qF qS iH iE iD iF iS aS aSd aSf aSg aR aRu aRr aRw aRe aRa aRf aRs aL aLb aLk aLe x_kept h_rate h_wrap e_days e_firsts e_seconds e_size p_held p_most p_start p_heldInAll ce_days ce_firsts ce_seconds ce_size t_letters t_length t_at t_place t_token t_number t_rateTold t_wrapTold t_startTold th_rate th_wrap te_days te_firsts te_seconds te_size tp_held tp_most tp_start tp_heldInAll tce_days tce_firsts tce_seconds tce_size q_size q_next qh_rate qh_wrap qe_size qe_days qe_firsts qe_seconds ih_rate ih_wrap ie_size ie_days ie_firsts ie_seconds s_days s_fars s_goods r_until r_rest r_ways r_inEach r_inAny r_firsts r_reasons r_keptInFirst r_swapAt r_swapGood l_bests l_kept l_enough l_known) sz) := by
  refine Met_i (w1 := fun u : Unit => wd_X8 cI cJ cZ cH aX aXi aXk aH aE aEd aEf aEs aP aPh aPm acE acEd acEf acEs aT aTl atH atE atEd atEf atEs atP atPh atPm atcE atcEd atcEf atcEs aQ aQa qH qE qD qF qS iH iE iD iF iS aS aSd aSf aSg aR aRu aRr aRw aRe aRa aRf aRs aL aLb aLk aLe x_kept h_rate h_wrap e_days e_firsts e_seconds e_size p_held p_most p_start p_heldInAll ce_days ce_firsts ce_seconds ce_size t_letters t_length t_at t_place t_token t_number t_rateTold t_wrapTold t_startTold th_rate th_wrap te_days te_firsts te_seconds te_size tp_held tp_most tp_start tp_heldInAll tce_days tce_firsts tce_seconds tce_size q_size q_next qh_rate qh_wrap qe_size qe_days qe_firsts qe_seconds ih_rate ih_wrap ie_size ie_days ie_firsts ie_seconds s_days s_fars s_goods r_until r_rest r_ways r_inEach r_inAny r_firsts r_reasons r_keptInFirst r_swapAt r_swapGood l_bests l_kept l_enough l_known) (by decide) (Nat.le_of_ble_eq_true rfl) ?_
  intro p e s m below meth c A Z ls hsz hx hb hml hown hts hmn hA hP hK hN hD hS hl hRet
  have hown : s.vm.findClass "MilesKept" = some m.cls := hown
  have hl : lv_has ls 2 [(0, .ref aX), (1, .int p1)] := hl
  unfold wp_X8_count at hf
  refine lv_iload_n hx hb dX8_count_0 rfl (lv_at hl 1 rfl) ?_
  by_cases hsw : p1.toInt < 0 ∨ 5 < p1.toInt
  · have hf := hf.1 hsw
    refine lv_tableOut (tgt := 94) hx hb dX8_count_1 hsw (by decide) ?_
    refine lv_iconst (v := (-1)) hx hb dX8_count_94 (by decide) ?_
    exact hRet _ _ _ _ (-1 : Int32) () hf hP hD hS dX8_count_95
  · have hcs : p1.toInt = 0 ∨ p1.toInt = 1 ∨ p1.toInt = 2 ∨ p1.toInt = 3 ∨ p1.toInt = 4 ∨ p1.toInt = 5 := by omega
    rcases hcs with hsx | hsx | hsx | hsx | hsx | hsx
    · have hsx := sw_at 0 hsx (by decide)
      have hf := hf.2.1 hsx
      refine lv_tableIn (tgt := 40) (off := 39) hx hb dX8_count_1 (by rw [hsx]; decide) (by rw [hsx]; decide) (by rw [hsx]; decide) (by decide) ?_
      refine lv_aload_n hx hb dX8_count_40 rfl (lv_at hl 0 rfl) ?_
      refine va_get (D := (dC, dI)) (ci := 8) (v := .ref aH) (C := RX8) (T := TX8) (N := 8) hx hb hts inX8 hown hK hP 0 rfl rfl 0 (by decide) (hts _ kw383) (fun _ h9 => h9) rfl dX8_count_41 ?_
      refine va_get (D := (dC, dI)) (ci := 1) (v := .ref aE) (C := RX1) (T := TX1) (N := 3) hx hb hts inX1 hown hK hP 3 rfl rfl 0 (by decide) (hts _ kw63) (fun _ h9 => h9) rfl dX8_count_44 ?_
      refine va_get (D := (dC, dI)) (ci := 0) (v := .int e_size) (C := RX0) (T := TX0) (N := 4) hx hb hts inX0 hown hK hP 4 rfl rfl 3 (by decide) (hts _ kw50) (fun _ h9 => h9) rfl dX8_count_47 ?_
      exact hRet _ _ _ _ e_size () hf hP hD hS dX8_count_50
    · have hsx := sw_at 1 hsx (by decide)
      have hf := hf.2.2.1 hsx
      refine lv_tableIn (tgt := 51) (off := 50) hx hb dX8_count_1 (by rw [hsx]; decide) (by rw [hsx]; decide) (by rw [hsx]; decide) (by decide) ?_
      refine lv_aload_n hx hb dX8_count_51 rfl (lv_at hl 0 rfl) ?_
      refine va_get (D := (dC, dI)) (ci := 8) (v := .ref aP) (C := RX8) (T := TX8) (N := 8) hx hb hts inX8 hown hK hP 0 rfl rfl 1 (by decide) (hts _ kw384) (fun _ h9 => h9) rfl dX8_count_52 ?_
      refine va_get (D := (dC, dI)) (ci := 4) (v := .ref acE) (C := RX4) (T := TX4) (N := 5) hx hb hts inX4 hown hK hP 8 rfl rfl 0 (by decide) (hts _ kw89) (fun _ h9 => h9) rfl dX8_count_55 ?_
      refine va_get (D := (dC, dI)) (ci := 0) (v := .int ce_size) (C := RX0) (T := TX0) (N := 4) hx hb hts inX0 hown hK hP 11 rfl rfl 3 (by decide) (hts _ kw50) (fun _ h9 => h9) rfl dX8_count_58 ?_
      exact hRet _ _ _ _ ce_size () hf hP hD hS dX8_count_61
    · have hsx := sw_at 2 hsx (by decide)
      have hf := hf.2.2.2.1 hsx
      refine lv_tableIn (tgt := 62) (off := 61) hx hb dX8_count_1 (by rw [hsx]; decide) (by rw [hsx]; decide) (by rw [hsx]; decide) (by decide) ?_
      refine lv_aload_n hx hb dX8_count_62 rfl (lv_at hl 0 rfl) ?_
      refine va_get (D := (dC, dI)) (ci := 8) (v := .ref aH) (C := RX8) (T := TX8) (N := 8) hx hb hts inX8 hown hK hP 0 rfl rfl 0 (by decide) (hts _ kw383) (fun _ h9 => h9) rfl dX8_count_63 ?_
      refine va_get (D := (dC, dI)) (ci := 1) (v := .int h_rate) (C := RX1) (T := TX1) (N := 3) hx hb hts inX1 hown hK hP 3 rfl rfl 1 (by decide) (hts _ kw68) (fun _ h9 => h9) rfl dX8_count_66 ?_
      exact hRet _ _ _ _ h_rate () hf hP hD hS dX8_count_69
    · have hsx := sw_at 3 hsx (by decide)
      have hf := hf.2.2.2.2.1 hsx
      refine lv_tableIn (tgt := 70) (off := 69) hx hb dX8_count_1 (by rw [hsx]; decide) (by rw [hsx]; decide) (by rw [hsx]; decide) (by decide) ?_
      refine lv_aload_n hx hb dX8_count_70 rfl (lv_at hl 0 rfl) ?_
      refine va_get (D := (dC, dI)) (ci := 8) (v := .ref aH) (C := RX8) (T := TX8) (N := 8) hx hb hts inX8 hown hK hP 0 rfl rfl 0 (by decide) (hts _ kw383) (fun _ h9 => h9) rfl dX8_count_71 ?_
      refine va_get (D := (dC, dI)) (ci := 1) (v := .int h_wrap) (C := RX1) (T := TX1) (N := 3) hx hb hts inX1 hown hK hP 3 rfl rfl 2 (by decide) (hts _ kw72) (fun _ h9 => h9) rfl dX8_count_74 ?_
      exact hRet _ _ _ _ h_wrap () hf hP hD hS dX8_count_77
    · have hsx := sw_at 4 hsx (by decide)
      have hf := hf.2.2.2.2.2.1 hsx
      refine lv_tableIn (tgt := 78) (off := 77) hx hb dX8_count_1 (by rw [hsx]; decide) (by rw [hsx]; decide) (by rw [hsx]; decide) (by decide) ?_
      refine lv_aload_n hx hb dX8_count_78 rfl (lv_at hl 0 rfl) ?_
      refine va_get (D := (dC, dI)) (ci := 8) (v := .ref aP) (C := RX8) (T := TX8) (N := 8) hx hb hts inX8 hown hK hP 0 rfl rfl 1 (by decide) (hts _ kw384) (fun _ h9 => h9) rfl dX8_count_79 ?_
      refine va_get (D := (dC, dI)) (ci := 4) (v := .int p_start) (C := RX4) (T := TX4) (N := 5) hx hb hts inX4 hown hK hP 8 rfl rfl 3 (by decide) (hts _ kw96) (fun _ h9 => h9) rfl dX8_count_82 ?_
      exact hRet _ _ _ _ p_start () hf hP hD hS dX8_count_85
    · have hsx := sw_at 5 hsx (by decide)
      have hf := hf.2.2.2.2.2.2 hsx
      refine lv_tableIn (tgt := 86) (off := 85) hx hb dX8_count_1 (by rw [hsx]; decide) (by rw [hsx]; decide) (by rw [hsx]; decide) (by decide) ?_
      refine lv_aload_n hx hb dX8_count_86 rfl (lv_at hl 0 rfl) ?_
      refine va_get (D := (dC, dI)) (ci := 8) (v := .ref aT) (C := RX8) (T := TX8) (N := 8) hx hb hts inX8 hown hK hP 0 rfl rfl 2 (by decide) (hts _ kw385) (fun _ h9 => h9) rfl dX8_count_87 ?_
      refine va_get (D := (dC, dI)) (ci := 7) (v := .int t_length) (C := RX7) (T := TX7) (N := 11) hx hb hts inX7 hown hK hP 15 rfl rfl 3 (by decide) (hts _ kw127) (fun _ h9 => h9) rfl dX8_count_90 ?_
      exact hRet _ _ _ _ t_length () hf hP hD hS dX8_count_93
abbrev rm_X9_count : Room := { frames := 0, cells := 0, slots := 0, locals := 0 }
set_option maxHeartbeats 4000000 in
set_option maxRecDepth 100000 in
theorem c_X9_count (l : Launch) (dC : Nat → ClassId) (dI : Nat → Nat → Nat) (cI cJ cZ cH : ClassId) (aM : Nat) (aM_text : Nat) (aM_read : Nat) (aM_readDays : Nat) (aM_readWas : Nat) (aM_readThen : Nat) (aM_now : Nat) (aM_changeDays : Nat) (aM_was : Nat) (aM_then : Nat) (aM_undos : Nat) (aM_isKept : Nat) (aM_kept : Nat) (aM_goods : Nat) (sz : Nat) (m_letterMany : Int32) (m_text : Nat → Int32) (m_readAt : Int32) (m_tokenAt : Int32) (m_token : Int32) (m_value : Int32) (m_faultAt : Int32) (m_read : Nat → Int32) (m_readChanges : Int32) (m_readStart : Int32) (m_readOnce : Int32) (m_readDays : Nat → Int32) (m_readWas : Nat → Int32) (m_readThen : Nat → Int32) (m_now : Nat → Int32) (m_changeMany : Int32) (m_start : Int32) (m_changeDays : Nat → Int32) (m_was : Nat → Int32) (m_then : Nat → Int32) (m_undoMany : Int32) (m_undoAt : Int32) (m_undos : Nat → Int32) (m_isKept : Nat → Int32) (m_kept : Nat → Int32) (m_isKnown : Int32) (m_best : Int32) (m_firstCode : Int32) (m_rivalMany : Int64) (m_certain : Int32) (m_possible : Int32) (m_goods : Nat → Int32) (m_setKept : Int32) (m_lastKept : Int32) (m_lastFar : Int32) (m_swapMost : Int32) (p1 : Int32) {Q : Int32 → Prop} (hf : wp_X9_count m_letterMany m_now m_changeMany m_start p1 Q) : Met l yX9_count (.code yX9_count cX9_count 2 (some .int) :: GW) rm_X9_count (va_Pc [.ref aM, .int p1] (PX (dC, dI) cI cJ cZ cH (wd_X9 cI cJ cZ cH aM aM_text aM_read aM_readDays aM_readWas aM_readThen aM_now aM_changeDays aM_was aM_then aM_undos aM_isKept aM_kept aM_goods m_letterMany m_text m_readAt m_tokenAt m_token m_value m_faultAt m_read m_readChanges m_readStart m_readOnce m_readDays m_readWas m_readThen m_now m_changeMany m_start m_changeDays m_was m_then m_undoMany m_undoAt m_undos m_isKept m_kept m_isKnown m_best m_firstCode m_rivalMany m_certain m_possible m_goods m_setKept m_lastKept m_lastFar m_swapMost) sz)) (va_Qi (fun (r : Int32) (_u : Unit) => Q r ) (fun u t => BX (dC, dI) (wd_X9 cI cJ cZ cH aM aM_text aM_read aM_readDays aM_readWas aM_readThen aM_now aM_changeDays aM_was aM_then aM_undos aM_isKept aM_kept aM_goods m_letterMany m_text m_readAt m_tokenAt m_token m_value m_faultAt m_read m_readChanges m_readStart m_readOnce m_readDays m_readWas m_readThen m_now m_changeMany m_start m_changeDays m_was m_then m_undoMany m_undoAt m_undos m_isKept m_kept m_isKnown m_best m_firstCode m_rivalMany m_certain m_possible m_goods m_setKept m_lastKept m_lastFar m_swapMost) (va_A (wd_X9 cI cJ cZ cH aM aM_text aM_read aM_readDays aM_readWas aM_readThen aM_now aM_changeDays aM_was aM_then aM_undos aM_isKept aM_kept aM_goods m_letterMany m_text m_readAt m_tokenAt m_token m_value m_faultAt m_read m_readChanges m_readStart m_readOnce m_readDays m_readWas m_readThen m_now m_changeMany m_start m_changeDays m_was m_then m_undoMany m_undoAt m_undos m_isKept m_kept m_isKnown m_best m_firstCode m_rivalMany m_certain m_possible m_goods m_setKept m_lastKept m_lastFar m_swapMost) sz) t) (va_A (wd_X9 cI cJ cZ cH aM aM_text aM_read aM_readDays aM_readWas aM_readThen aM_now aM_changeDays aM_was aM_then aM_undos aM_isKept aM_kept aM_goods m_letterMany m_text m_readAt m_tokenAt m_token m_value m_faultAt m_read m_readChanges m_readStart m_readOnce m_readDays m_readWas m_readThen m_now m_changeMany m_start m_changeDays m_was m_then m_undoMany m_undoAt m_undos m_isKept m_kept m_isKnown m_best m_firstCode m_rivalMany m_certain m_possible m_goods m_setKept m_lastKept m_lastFar m_swapMost) sz)) 0 0 (va_A (wd_X9 cI cJ cZ cH aM aM_text aM_read aM_readDays aM_readWas aM_readThen aM_now aM_changeDays aM_was aM_then aM_undos aM_isKept aM_kept aM_goods m_letterMany m_text m_readAt m_tokenAt m_token m_value m_faultAt m_read m_readChanges m_readStart m_readOnce m_readDays m_readWas m_readThen m_now m_changeMany m_start m_changeDays m_was m_then m_undoMany m_undoAt m_undos m_isKept m_kept m_isKnown m_best m_firstCode m_rivalMany m_certain m_possible m_goods m_setKept m_lastKept m_lastFar m_swapMost) sz) := by
  refine Met_i (w1 := fun u : Unit => wd_X9 cI cJ cZ cH aM aM_text aM_read aM_readDays aM_readWas aM_readThen aM_now aM_changeDays aM_was aM_then aM_undos aM_isKept aM_kept aM_goods m_letterMany m_text m_readAt m_tokenAt m_token m_value m_faultAt m_read m_readChanges m_readStart m_readOnce m_readDays m_readWas m_readThen m_now m_changeMany m_start m_changeDays m_was m_then m_undoMany m_undoAt m_undos m_isKept m_kept m_isKnown m_best m_firstCode m_rivalMany m_certain m_possible m_goods m_setKept m_lastKept m_lastFar m_swapMost) (by decide) (Nat.le_of_ble_eq_true rfl) ?_
  intro p e s m below meth c A Z ls hsz hx hb hml hown hts hmn hA hP hK hN hD hS hl hRet
  have hown : s.vm.findClass "MilesKeptModel" = some m.cls := hown
  have hl : lv_has ls 2 [(0, .ref aM), (1, .int p1)] := hl
  unfold wp_X9_count at hf
  refine lv_iload_n hx hb dX9_count_0 rfl (lv_at hl 1 rfl) ?_
  by_cases hsw : p1.toInt < 0 ∨ 5 < p1.toInt
  · have hf := hf.1 hsw
    refine lv_tableOut (tgt := 76) hx hb dX9_count_1 hsw (by decide) ?_
    refine lv_iconst (v := (-1)) hx hb dX9_count_76 (by decide) ?_
    exact hRet _ _ _ _ (-1 : Int32) () hf hP hD hS dX9_count_77
  · have hcs : p1.toInt = 0 ∨ p1.toInt = 1 ∨ p1.toInt = 2 ∨ p1.toInt = 3 ∨ p1.toInt = 4 ∨ p1.toInt = 5 := by omega
    rcases hcs with hsx | hsx | hsx | hsx | hsx | hsx
    · have hsx := sw_at 0 hsx (by decide)
      have hf := hf.2.1 hsx
      refine lv_tableIn (tgt := 40) (off := 39) hx hb dX9_count_1 (by rw [hsx]; decide) (by rw [hsx]; decide) (by rw [hsx]; decide) (by decide) ?_
      refine lv_aload_n hx hb dX9_count_40 rfl (lv_at hl 0 rfl) ?_
      refine va_get (D := (dC, dI)) (ci := 9) (v := .ref aM_now) (C := RX9) (T := TX9) (N := 36) hx hb hts inX9 hown hK hP 0 rfl rfl 14 (by decide) (hts _ kw733) (fun _ h9 => h9) rfl dX9_count_41 ?_
      refine lv_iconst (v := 0) hx hb dX9_count_44 (by decide) ?_
      refine va_iald hx hb hK hP 6 0 rfl rfl (by unfold vp_in; decide) dX9_count_45 ?_
      exact hRet _ _ _ _ (m_now (0 : Int32).toNatClampNeg) () hf hP hD hS dX9_count_46
    · have hsx := sw_at 1 hsx (by decide)
      have hf := hf.2.2.1 hsx
      refine lv_tableIn (tgt := 47) (off := 46) hx hb dX9_count_1 (by rw [hsx]; decide) (by rw [hsx]; decide) (by rw [hsx]; decide) (by decide) ?_
      refine lv_aload_n hx hb dX9_count_47 rfl (lv_at hl 0 rfl) ?_
      refine va_get (D := (dC, dI)) (ci := 9) (v := .int m_changeMany) (C := RX9) (T := TX9) (N := 36) hx hb hts inX9 hown hK hP 0 rfl rfl 15 (by decide) (hts _ kw734) (fun _ h9 => h9) rfl dX9_count_48 ?_
      exact hRet _ _ _ _ m_changeMany () hf hP hD hS dX9_count_51
    · have hsx := sw_at 2 hsx (by decide)
      have hf := hf.2.2.2.1 hsx
      refine lv_tableIn (tgt := 52) (off := 51) hx hb dX9_count_1 (by rw [hsx]; decide) (by rw [hsx]; decide) (by rw [hsx]; decide) (by decide) ?_
      refine lv_aload_n hx hb dX9_count_52 rfl (lv_at hl 0 rfl) ?_
      refine va_get (D := (dC, dI)) (ci := 9) (v := .ref aM_now) (C := RX9) (T := TX9) (N := 36) hx hb hts inX9 hown hK hP 0 rfl rfl 14 (by decide) (hts _ kw733) (fun _ h9 => h9) rfl dX9_count_53 ?_
      refine lv_iconst (v := 1) hx hb dX9_count_56 (by decide) ?_
      refine va_iald hx hb hK hP 6 0 rfl rfl (by unfold vp_in; decide) dX9_count_57 ?_
      exact hRet _ _ _ _ (m_now (1 : Int32).toNatClampNeg) () hf hP hD hS dX9_count_58
    · have hsx := sw_at 3 hsx (by decide)
      have hf := hf.2.2.2.2.1 hsx
      refine lv_tableIn (tgt := 59) (off := 58) hx hb dX9_count_1 (by rw [hsx]; decide) (by rw [hsx]; decide) (by rw [hsx]; decide) (by decide) ?_
      refine lv_aload_n hx hb dX9_count_59 rfl (lv_at hl 0 rfl) ?_
      refine va_get (D := (dC, dI)) (ci := 9) (v := .ref aM_now) (C := RX9) (T := TX9) (N := 36) hx hb hts inX9 hown hK hP 0 rfl rfl 14 (by decide) (hts _ kw733) (fun _ h9 => h9) rfl dX9_count_60 ?_
      refine lv_iconst (v := 2) hx hb dX9_count_63 (by decide) ?_
      refine va_iald hx hb hK hP 6 0 rfl rfl (by unfold vp_in; decide) dX9_count_64 ?_
      exact hRet _ _ _ _ (m_now (2 : Int32).toNatClampNeg) () hf hP hD hS dX9_count_65
    · have hsx := sw_at 4 hsx (by decide)
      have hf := hf.2.2.2.2.2.1 hsx
      refine lv_tableIn (tgt := 66) (off := 65) hx hb dX9_count_1 (by rw [hsx]; decide) (by rw [hsx]; decide) (by rw [hsx]; decide) (by decide) ?_
      refine lv_aload_n hx hb dX9_count_66 rfl (lv_at hl 0 rfl) ?_
      refine va_get (D := (dC, dI)) (ci := 9) (v := .int m_start) (C := RX9) (T := TX9) (N := 36) hx hb hts inX9 hown hK hP 0 rfl rfl 16 (by decide) (hts _ kw735) (fun _ h9 => h9) rfl dX9_count_67 ?_
      exact hRet _ _ _ _ m_start () hf hP hD hS dX9_count_70
    · have hsx := sw_at 5 hsx (by decide)
      have hf := hf.2.2.2.2.2.2 hsx
      refine lv_tableIn (tgt := 71) (off := 70) hx hb dX9_count_1 (by rw [hsx]; decide) (by rw [hsx]; decide) (by rw [hsx]; decide) (by decide) ?_
      refine lv_aload_n hx hb dX9_count_71 rfl (lv_at hl 0 rfl) ?_
      refine va_get (D := (dC, dI)) (ci := 9) (v := .int m_letterMany) (C := RX9) (T := TX9) (N := 36) hx hb hts inX9 hown hK hP 0 rfl rfl 0 (by decide) (hts _ kw719) (fun _ h9 => h9) rfl dX9_count_72 ?_
      exact hRet _ _ _ _ m_letterMany () hf hP hD hS dX9_count_75
