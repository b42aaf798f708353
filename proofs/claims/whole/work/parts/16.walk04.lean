abbrev rm_X7_nextToken : Room := { frames := 2, cells := 0, slots := 0, locals := 41 }
set_option maxHeartbeats 4000000 in
set_option maxRecDepth 100000 in
theorem c_X7_nextToken (l : Launch) (dC : Nat → ClassId) (dI : Nat → Nat → Nat) (cI cJ cZ cH : ClassId) (aT : Nat) (aTl : Nat) (atH : Nat) (atE : Nat) (atEd : Nat) (atEf : Nat) (atEs : Nat) (atP : Nat) (atPh : Nat) (atPm : Nat) (atcE : Nat) (atcEd : Nat) (atcEf : Nat) (atcEs : Nat) (sz : Nat) (t_letters : Nat → Int32) (t_length : Int32) (t_at : Int32) (t_place : Int32) (t_token : Int32) (t_number : Int32) (t_rateTold : Int32) (t_wrapTold : Int32) (t_startTold : Int32) (th_rate : Int32) (th_wrap : Int32) (te_days : Nat → Int32) (te_firsts : Nat → Int32) (te_seconds : Nat → Int32) (te_size : Int32) (tp_held : Nat → Int32) (tp_most : Nat → Int32) (tp_start : Int32) (tp_heldInAll : Int32) (tce_days : Nat → Int32) (tce_firsts : Nat → Int32) (tce_seconds : Nat → Int32) (tce_size : Int32) {Q : Int32 → Int32 → Int32 → Int32 → Prop} (hf : wp_X7_nextToken t_letters t_length t_at t_place t_token t_number Q) : Met l yX7_nextToken (.code yX7_nextToken cX7_nextToken 1 none :: GW) rm_X7_nextToken (va_Pc [.ref aT] (PX (dC, dI) cI cJ cZ cH (wd_X7 cI cJ cZ cH aT aTl atH atE atEd atEf atEs atP atPh atPm atcE atcEd atcEf atcEs t_letters t_length t_at t_place t_token t_number t_rateTold t_wrapTold t_startTold th_rate th_wrap te_days te_firsts te_seconds te_size tp_held tp_most tp_start tp_heldInAll tce_days tce_firsts tce_seconds tce_size) sz)) (va_Qv (fun (u : Int32 × Int32 × Int32 × Int32) => Q u.1 u.2.1 u.2.2.1 u.2.2.2) (fun u t => BX (dC, dI) (wd_X7 cI cJ cZ cH aT aTl atH atE atEd atEf atEs atP atPh atPm atcE atcEd atcEf atcEs t_letters t_length u.1 u.2.1 u.2.2.1 u.2.2.2 t_rateTold t_wrapTold t_startTold th_rate th_wrap te_days te_firsts te_seconds te_size tp_held tp_most tp_start tp_heldInAll tce_days tce_firsts tce_seconds tce_size) (va_A (wd_X7 cI cJ cZ cH aT aTl atH atE atEd atEf atEs atP atPh atPm atcE atcEd atcEf atcEs t_letters t_length t_at t_place t_token t_number t_rateTold t_wrapTold t_startTold th_rate th_wrap te_days te_firsts te_seconds te_size tp_held tp_most tp_start tp_heldInAll tce_days tce_firsts tce_seconds tce_size) sz) t) (va_A (wd_X7 cI cJ cZ cH aT aTl atH atE atEd atEf atEs atP atPh atPm atcE atcEd atcEf atcEs t_letters t_length t_at t_place t_token t_number t_rateTold t_wrapTold t_startTold th_rate th_wrap te_days te_firsts te_seconds te_size tp_held tp_most tp_start tp_heldInAll tce_days tce_firsts tce_seconds tce_size) sz)) 0 0 (va_A (wd_X7 cI cJ cZ cH aT aTl atH atE atEd atEf atEs atP atPh atPm atcE atcEd atcEf atcEs t_letters t_length t_at t_place t_token t_number t_rateTold t_wrapTold t_startTold th_rate th_wrap te_days te_firsts te_seconds te_size tp_held tp_most tp_start tp_heldInAll tce_days tce_firsts tce_seconds tce_size) sz) := by
  refine Met_v (w1 := fun u : Int32 × Int32 × Int32 × Int32 => wd_X7 cI cJ cZ cH aT aTl atH atE atEd atEf atEs atP atPh atPm atcE atcEd atcEf atcEs t_letters t_length u.1 u.2.1 u.2.2.1 u.2.2.2 t_rateTold t_wrapTold t_startTold th_rate th_wrap te_days te_firsts te_seconds te_size tp_held tp_most tp_start tp_heldInAll tce_days tce_firsts tce_seconds tce_size) (by decide) (Nat.le_of_ble_eq_true rfl) ?_
  intro p e s m below meth c A Z ls hsz hx hb hml hown hts hmn hA hP hK hN hD hS hl hRet
  have hown : s.vm.findClass "MilesKept$Teller" = some m.cls := hown
  have hl : lv_has ls 1 [(0, .ref aT)] := hl
  have J110 : ∀ (t_at : Int32) (t_place : Int32) (t_token : Int32) (t_number : Int32), wp_X7_nextToken_b110 t_letters t_length Q  t_at t_place t_token t_number → ∀ (H : Heap) (locs : List Loc) (ls : Array Slot), va_P (dC, dI) vwCl (wd_X7 cI cJ cZ cH aT aTl atH atE atEd atEf atEs atP atPh atPm atcE atcEd atcEf atcEs t_letters t_length t_at t_place t_token t_number t_rateTold t_wrapTold t_startTold th_rate th_wrap te_days te_firsts te_seconds te_size tp_held tp_most tp_start tp_heldInAll tce_days tce_firsts tce_seconds tce_size) H → va_D A (wd_X7 cI cJ cZ cH aT aTl atH atE atEd atEf atEs atP atPh atPm atcE atcEd atcEf atcEs t_letters t_length t_at t_place t_token t_number t_rateTold t_wrapTold t_startTold th_rate th_wrap te_days te_firsts te_seconds te_size tp_held tp_most tp_start tp_heldInAll tce_days tce_firsts tce_seconds tce_size) → va_S A s.heap H locs → lv_has ls 1 [] → W p l e rm_X7_nextToken s m ([Value.ref aT] : List Value).toArray below meth c H locs 0 0 Z (F0 m 110 ls []) := by
    intro  t_at t_place t_token t_number hf H locs ls hP hD hS hl
    unfold wp_X7_nextToken_b110 at hf
    exact hRet _ _ _ _ (t_at, t_place, t_token, t_number) hf hP hD hS dX7_nextToken_110
  have J38 : ∀ (t_at : Int32) (t_place : Int32) (t_token : Int32) (t_number : Int32), wp_X7_nextToken_b38 t_letters t_length Q  t_at t_place t_token t_number → ∀ (H : Heap) (locs : List Loc) (ls : Array Slot), va_P (dC, dI) vwCl (wd_X7 cI cJ cZ cH aT aTl atH atE atEd atEf atEs atP atPh atPm atcE atcEd atcEf atcEs t_letters t_length t_at t_place t_token t_number t_rateTold t_wrapTold t_startTold th_rate th_wrap te_days te_firsts te_seconds te_size tp_held tp_most tp_start tp_heldInAll tce_days tce_firsts tce_seconds tce_size) H → va_D A (wd_X7 cI cJ cZ cH aT aTl atH atE atEd atEf atEs atP atPh atPm atcE atcEd atcEf atcEs t_letters t_length t_at t_place t_token t_number t_rateTold t_wrapTold t_startTold th_rate th_wrap te_days te_firsts te_seconds te_size tp_held tp_most tp_start tp_heldInAll tce_days tce_firsts tce_seconds tce_size) → va_S A s.heap H locs → lv_has ls 1 [(0, .ref aT)] → W p l e rm_X7_nextToken s m ([Value.ref aT] : List Value).toArray below meth c H locs 0 0 Z (F0 m 38 ls []) := by
    intro  t_at t_place t_token t_number hf H locs ls hP hD hS hl
    unfold wp_X7_nextToken_b38 at hf
    refine lv_aload_n hx hb dX7_nextToken_38 rfl (lv_at hl 0 rfl) ?_
    refine lv_aload_n hx hb dX7_nextToken_39 rfl (lv_at hl 0 rfl) ?_
    refine va_get (D := (dC, dI)) (ci := 7) (v := .int t_at) (C := RX7) (T := TX7) (N := 11) hx hb hts inX7 hown hK hP 0 rfl rfl 4 (by decide) (hts _ kw128) (fun _ h9 => h9) rfl dX7_nextToken_40 ?_
    refine va_put (D := (dC, dI)) (ci := 7) (v := .int t_at) (ty := .int) (C := RX7) (T := TX7) (N := 11) hx hb hts inX7 tyX7 tyX7_ok nmX7 hown hK hP hD hS 0 rfl rfl 5 (by decide) (hts _ kw129) (fun _ h9 => h9) rfl (by decide +kernel) rfl rfl (Nat.le_of_ble_eq_true rfl) dX7_nextToken_43 (fun H locs hP hD hS => ?_)
    have hP : va_P (dC, dI) vwCl (wd_X7 cI cJ cZ cH aT aTl atH atE atEd atEf atEs atP atPh atPm atcE atcEd atcEf atcEs t_letters t_length t_at t_at t_token t_number t_rateTold t_wrapTold t_startTold th_rate th_wrap te_days te_firsts te_seconds te_size tp_held tp_most tp_start tp_heldInAll tce_days tce_firsts tce_seconds tce_size) H := hP
    have hD : va_D A (wd_X7 cI cJ cZ cH aT aTl atH atE atEd atEf atEs atP atPh atPm atcE atcEd atcEf atcEs t_letters t_length t_at t_at t_token t_number t_rateTold t_wrapTold t_startTold th_rate th_wrap te_days te_firsts te_seconds te_size tp_held tp_most tp_start tp_heldInAll tce_days tce_firsts tce_seconds tce_size) := hD
    refine lv_aload_n hx hb dX7_nextToken_46 rfl (lv_at hl 0 rfl) ?_
    refine va_get (D := (dC, dI)) (ci := 7) (v := .int t_at) (C := RX7) (T := TX7) (N := 11) hx hb hts inX7 hown hK hP 0 rfl rfl 4 (by decide) (hts _ kw128) (fun _ h9 => h9) rfl dX7_nextToken_47 ?_
    refine lv_aload_n hx hb dX7_nextToken_50 rfl (lv_at hl 0 rfl) ?_
    refine va_get (D := (dC, dI)) (ci := 7) (v := .int t_length) (C := RX7) (T := TX7) (N := 11) hx hb hts inX7 hown hK hP 0 rfl rfl 3 (by decide) (hts _ kw126) (fun _ h9 => h9) rfl dX7_nextToken_51 ?_
    refine lv_icmp_lt (tgt := 65) hx hb dX7_nextToken_54 (by decide) (fun c54 => ?_) (fun c54 => ?_)
    · have hf := hf.1 c54
      refine lv_aload_n hx hb dX7_nextToken_65 rfl (lv_at hl 0 rfl) ?_
      refine va_get (D := (dC, dI)) (ci := 7) (v := .ref aTl) (C := RX7) (T := TX7) (N := 11) hx hb hts inX7 hown hK hP 0 rfl rfl 0 (by decide) (hts _ kw121) (fun _ h9 => h9) rfl dX7_nextToken_66 ?_
      refine lv_aload_n hx hb dX7_nextToken_69 rfl (lv_at hl 0 rfl) ?_
      refine va_get (D := (dC, dI)) (ci := 7) (v := .int t_at) (C := RX7) (T := TX7) (N := 11) hx hb hts inX7 hown hK hP 0 rfl rfl 4 (by decide) (hts _ kw128) (fun _ h9 => h9) rfl dX7_nextToken_70 ?_
      obtain ⟨hin, hf⟩ := hf
      refine va_iald hx hb hK hP 1 0 rfl rfl hin dX7_nextToken_73 ?_
      refine mk_i (w2 := fun u : Unit => wd_X7 cI cJ cZ cH aT aTl atH atE atEd atEf atEs atP atPh atPm atcE atcEd atcEf atcEs t_letters t_length t_at t_at t_token t_number t_rateTold t_wrapTold t_startTold th_rate th_wrap te_days te_firsts te_seconds te_size tp_held tp_most tp_start tp_heldInAll tce_days tce_firsts tce_seconds tce_size) (wc := wd_E cI cJ cZ cH ) hP hD hS hA [] [0, 1, 2, 3, 4, 5, 6, 7, 8, 9, 10, 11, 12, 13] [0, 1, 2, 3, 4, 5, 6, 7, 8, 9, 10, 11, 12, 13] rfl rfl rfl rfl (by decide) rfl (fun _ => rfl) (fun hPc hDc => va_runS (As := [.int (t_letters t_at.toNatClampNeg)]) (rest := []) ⟨hx, hb, hml, hown, hts⟩ (c_X7_isDigit l dC dI cI cJ cZ cH H.size (t_letters t_at.toNatClampNeg) hf) (va_cwS 1 hts (gS kw448 kw449 kw5 kw450) rfl rfl rfl (by decide +kernel) ⟨Nat.le_of_ble_eq_true rfl, Nat.le_of_ble_eq_true rfl⟩) ⟨PX_blind, PX_pre hPc hDc hK hN⟩ rfl rfl hl.1 rfl (lv_room (Nat.le_of_ble_eq_true rfl)) dX7_nextToken_74 ⟨Nat.le_of_ble_eq_true rfl, Nat.le_of_ble_eq_true rfl⟩) (fun r74_1 u H locs hf hP hD hS => ?_)
      try dsimp only at hf
      have hP : va_P (dC, dI) vwCl (wd_X7 cI cJ cZ cH aT aTl atH atE atEd atEf atEs atP atPh atPm atcE atcEd atcEf atcEs t_letters t_length t_at t_at t_token t_number t_rateTold t_wrapTold t_startTold th_rate th_wrap te_days te_firsts te_seconds te_size tp_held tp_most tp_start tp_heldInAll tce_days tce_firsts tce_seconds tce_size) H := hP
      have hD : va_D A (wd_X7 cI cJ cZ cH aT aTl atH atE atEd atEf atEs atP atPh atPm atcE atcEd atcEf atcEs t_letters t_length t_at t_at t_token t_number t_rateTold t_wrapTold t_startTold th_rate th_wrap te_days te_firsts te_seconds te_size tp_held tp_most tp_start tp_heldInAll tce_days tce_firsts tce_seconds tce_size) := hD
      refine lv_if_eq (tgt := 87) hx hb dX7_nextToken_77 (by decide) (fun c77 => ?_) (fun c77 => ?_)
      · have hf := hf.1 c77
        refine lv_aload_n hx hb dX7_nextToken_87 rfl (lv_at hl 0 rfl) ?_
        refine lv_aload_n hx hb dX7_nextToken_88 rfl (lv_at hl 0 rfl) ?_
        refine va_get (D := (dC, dI)) (ci := 7) (v := .ref aTl) (C := RX7) (T := TX7) (N := 11) hx hb hts inX7 hown hK hP 0 rfl rfl 0 (by decide) (hts _ kw121) (fun _ h9 => h9) rfl dX7_nextToken_89 ?_
        refine lv_aload_n hx hb dX7_nextToken_92 rfl (lv_at hl 0 rfl) ?_
        refine va_get (D := (dC, dI)) (ci := 7) (v := .int t_at) (C := RX7) (T := TX7) (N := 11) hx hb hts inX7 hown hK hP 0 rfl rfl 4 (by decide) (hts _ kw128) (fun _ h9 => h9) rfl dX7_nextToken_93 ?_
        obtain ⟨hin, hf⟩ := hf
        refine va_iald hx hb hK hP 1 0 rfl rfl hin dX7_nextToken_96 ?_
        refine lv_topi (fun x97_2 ex97_2 => ?_)
        have hf := hf x97_2 ex97_2
        refine va_put (D := (dC, dI)) (ci := 7) (v := .int x97_2) (ty := .int) (C := RX7) (T := TX7) (N := 11) hx hb hts inX7 tyX7 tyX7_ok nmX7 hown hK hP hD hS 0 rfl rfl 6 (by decide) (hts _ kw130) (fun _ h9 => h9) rfl (by decide +kernel) rfl rfl (Nat.le_of_ble_eq_true rfl) dX7_nextToken_97 (fun H locs hP hD hS => ?_)
        have hP : va_P (dC, dI) vwCl (wd_X7 cI cJ cZ cH aT aTl atH atE atEd atEf atEs atP atPh atPm atcE atcEd atcEf atcEs t_letters t_length t_at t_at x97_2 t_number t_rateTold t_wrapTold t_startTold th_rate th_wrap te_days te_firsts te_seconds te_size tp_held tp_most tp_start tp_heldInAll tce_days tce_firsts tce_seconds tce_size) H := hP
        have hD : va_D A (wd_X7 cI cJ cZ cH aT aTl atH atE atEd atEf atEs atP atPh atPm atcE atcEd atcEf atcEs t_letters t_length t_at t_at x97_2 t_number t_rateTold t_wrapTold t_startTold th_rate th_wrap te_days te_firsts te_seconds te_size tp_held tp_most tp_start tp_heldInAll tce_days tce_firsts tce_seconds tce_size) := hD
        refine lv_aload_n hx hb dX7_nextToken_100 rfl (lv_at hl 0 rfl) ?_
        refine lv_dup hx hb dX7_nextToken_101 rfl ?_
        refine va_get (D := (dC, dI)) (ci := 7) (v := .int t_at) (C := RX7) (T := TX7) (N := 11) hx hb hts inX7 hown hK hP 0 rfl rfl 4 (by decide) (hts _ kw128) (fun _ h9 => h9) rfl dX7_nextToken_102 ?_
        refine lv_iconst (v := 1) hx hb dX7_nextToken_105 (by decide) ?_
        refine lv_iadd hx hb dX7_nextToken_106 ?_
        refine lv_topi (fun x107_3 ex107_3 => ?_)
        have hf := hf x107_3 ex107_3
        refine va_put (D := (dC, dI)) (ci := 7) (v := .int x107_3) (ty := .int) (C := RX7) (T := TX7) (N := 11) hx hb hts inX7 tyX7 tyX7_ok nmX7 hown hK hP hD hS 0 rfl rfl 4 (by decide) (hts _ kw128) (fun _ h9 => h9) rfl (by decide +kernel) rfl rfl (Nat.le_of_ble_eq_true rfl) dX7_nextToken_107 (fun H locs hP hD hS => ?_)
        have hP : va_P (dC, dI) vwCl (wd_X7 cI cJ cZ cH aT aTl atH atE atEd atEf atEs atP atPh atPm atcE atcEd atcEf atcEs t_letters t_length x107_3 t_at x97_2 t_number t_rateTold t_wrapTold t_startTold th_rate th_wrap te_days te_firsts te_seconds te_size tp_held tp_most tp_start tp_heldInAll tce_days tce_firsts tce_seconds tce_size) H := hP
        have hD : va_D A (wd_X7 cI cJ cZ cH aT aTl atH atE atEd atEf atEs atP atPh atPm atcE atcEd atcEf atcEs t_letters t_length x107_3 t_at x97_2 t_number t_rateTold t_wrapTold t_startTold th_rate th_wrap te_days te_firsts te_seconds te_size tp_held tp_most tp_start tp_heldInAll tce_days tce_firsts tce_seconds tce_size) := hD
        exact J110  x107_3 t_at x97_2 t_number hf _ _ _ hP hD hS (lv_sub hl [] rfl)
      · have hf := hf.2 c77
        refine lv_aload_n hx hb dX7_nextToken_80 rfl (lv_at hl 0 rfl) ?_
        refine mk_v (w2 := fun u : Int32 × Int32 × Int32 => wd_X7 cI cJ cZ cH aT aTl atH atE atEd atEf atEs atP atPh atPm atcE atcEd atcEf atcEs t_letters t_length u.1 t_at u.2.1 u.2.2 t_rateTold t_wrapTold t_startTold th_rate th_wrap te_days te_firsts te_seconds te_size tp_held tp_most tp_start tp_heldInAll tce_days tce_firsts tce_seconds tce_size) (wc := wd_X7 cI cJ cZ cH aT aTl atH atE atEd atEf atEs atP atPh atPm atcE atcEd atcEf atcEs t_letters t_length t_at t_at t_token t_number t_rateTold t_wrapTold t_startTold th_rate th_wrap te_days te_firsts te_seconds te_size tp_held tp_most tp_start tp_heldInAll tce_days tce_firsts tce_seconds tce_size) hP hD hS hA [0, 1, 2, 3, 4, 5, 6, 7, 8, 9, 10, 11, 12, 13] [] [0, 1, 2, 3, 4, 5, 6, 7, 8, 9, 10, 11, 12, 13] rfl rfl rfl rfl (by decide) rfl (fun _ => rfl) (fun hPc hDc => va_runV (As := []) (rest := []) ⟨hx, hb, hml, hown, hts⟩ (c_X7_takeNumber l dC dI cI cJ cZ cH aT aTl atH atE atEd atEf atEs atP atPh atPm atcE atcEd atcEf atcEs H.size t_letters t_length t_at t_at t_token t_number t_rateTold t_wrapTold t_startTold th_rate th_wrap te_days te_firsts te_seconds te_size tp_held tp_most tp_start tp_heldInAll tce_days tce_firsts tce_seconds tce_size hf) (cwV 0 hts (gV kw451 kw453 kp18 kw5 kw454) rfl rfl rfl (by decide +kernel) ⟨Nat.le_of_ble_eq_true rfl, Nat.le_of_ble_eq_true rfl⟩) ⟨PX_blind, va_recv hK hPc (ci := 7) (q0 := 0) rfl rfl, PX_pre hPc hDc hK hN⟩ rfl rfl hl.1 rfl (lv_room (Nat.le_of_ble_eq_true rfl)) dX7_nextToken_81 ⟨Nat.le_of_ble_eq_true rfl, Nat.le_of_ble_eq_true rfl⟩) (fun u H locs hf hP hD hS => ?_)
        obtain ⟨t_at_81_4, t_token_81_5, t_number_81_6⟩ := u
        try dsimp only at hf
        have hP : va_P (dC, dI) vwCl (wd_X7 cI cJ cZ cH aT aTl atH atE atEd atEf atEs atP atPh atPm atcE atcEd atcEf atcEs t_letters t_length t_at_81_4 t_at t_token_81_5 t_number_81_6 t_rateTold t_wrapTold t_startTold th_rate th_wrap te_days te_firsts te_seconds te_size tp_held tp_most tp_start tp_heldInAll tce_days tce_firsts tce_seconds tce_size) H := hP
        have hD : va_D A (wd_X7 cI cJ cZ cH aT aTl atH atE atEd atEf atEs atP atPh atPm atcE atcEd atcEf atcEs t_letters t_length t_at_81_4 t_at t_token_81_5 t_number_81_6 t_rateTold t_wrapTold t_startTold th_rate th_wrap te_days te_firsts te_seconds te_size tp_held tp_most tp_start tp_heldInAll tce_days tce_firsts tce_seconds tce_size) := hD
        refine lv_goto (tgt := 110) hx hb dX7_nextToken_84 (by decide) ?_
        exact J110  t_at_81_4 t_at t_token_81_5 t_number_81_6 hf _ _ _ hP hD hS (lv_sub hl [] rfl)
    · have hf := hf.2 c54
      refine lv_aload_n hx hb dX7_nextToken_57 rfl (lv_at hl 0 rfl) ?_
      refine lv_iconst (v := (-1)) hx hb dX7_nextToken_58 (by decide) ?_
      refine va_put (D := (dC, dI)) (ci := 7) (v := .int (-1 : Int32)) (ty := .int) (C := RX7) (T := TX7) (N := 11) hx hb hts inX7 tyX7 tyX7_ok nmX7 hown hK hP hD hS 0 rfl rfl 6 (by decide) (hts _ kw130) (fun _ h9 => h9) rfl (by decide +kernel) rfl rfl (Nat.le_of_ble_eq_true rfl) dX7_nextToken_59 (fun H locs hP hD hS => ?_)
      have hP : va_P (dC, dI) vwCl (wd_X7 cI cJ cZ cH aT aTl atH atE atEd atEf atEs atP atPh atPm atcE atcEd atcEf atcEs t_letters t_length t_at t_at (-1 : Int32) t_number t_rateTold t_wrapTold t_startTold th_rate th_wrap te_days te_firsts te_seconds te_size tp_held tp_most tp_start tp_heldInAll tce_days tce_firsts tce_seconds tce_size) H := hP
      have hD : va_D A (wd_X7 cI cJ cZ cH aT aTl atH atE atEd atEf atEs atP atPh atPm atcE atcEd atcEf atcEs t_letters t_length t_at t_at (-1 : Int32) t_number t_rateTold t_wrapTold t_startTold th_rate th_wrap te_days te_firsts te_seconds te_size tp_held tp_most tp_start tp_heldInAll tce_days tce_firsts tce_seconds tce_size) := hD
      refine lv_goto (tgt := 110) hx hb dX7_nextToken_62 (by decide) ?_
      exact J110  t_at t_at (-1 : Int32) t_number hf _ _ _ hP hD hS (lv_sub hl [] rfl)
  have L0 : ∀ (n : Nat) (t_at : Int32) (t_place : Int32) (t_token : Int32) (t_number : Int32), wp_X7_nextToken_h0 t_letters t_length Q  n t_at t_place t_token t_number → ∀ (H : Heap) (locs : List Loc) (ls : Array Slot), va_P (dC, dI) vwCl (wd_X7 cI cJ cZ cH aT aTl atH atE atEd atEf atEs atP atPh atPm atcE atcEd atcEf atcEs t_letters t_length t_at t_place t_token t_number t_rateTold t_wrapTold t_startTold th_rate th_wrap te_days te_firsts te_seconds te_size tp_held tp_most tp_start tp_heldInAll tce_days tce_firsts tce_seconds tce_size) H → va_D A (wd_X7 cI cJ cZ cH aT aTl atH atE atEd atEf atEs atP atPh atPm atcE atcEd atcEf atcEs t_letters t_length t_at t_place t_token t_number t_rateTold t_wrapTold t_startTold th_rate th_wrap te_days te_firsts te_seconds te_size tp_held tp_most tp_start tp_heldInAll tce_days tce_firsts tce_seconds tce_size) → va_S A s.heap H locs → lv_has ls 1 [(0, .ref aT)] → W p l e rm_X7_nextToken s m ([Value.ref aT] : List Value).toArray below meth c H locs 0 0 Z (F0 m 0 ls []) := by
    intro n
    induction n with
    | zero =>
      intro t_at t_place t_token t_number hf
      exact False.elim hf
    | succ n hK0 =>
      intro t_at t_place t_token t_number hf H locs ls hP hD hS hl
      simp only [wp_X7_nextToken_h0] at hf
      refine lv_aload_n hx hb dX7_nextToken_0 rfl (lv_at hl 0 rfl) ?_
      refine va_get (D := (dC, dI)) (ci := 7) (v := .int t_at) (C := RX7) (T := TX7) (N := 11) hx hb hts inX7 hown hK hP 0 rfl rfl 4 (by decide) (hts _ kw128) (fun _ h9 => h9) rfl dX7_nextToken_1 ?_
      refine lv_aload_n hx hb dX7_nextToken_4 rfl (lv_at hl 0 rfl) ?_
      refine va_get (D := (dC, dI)) (ci := 7) (v := .int t_length) (C := RX7) (T := TX7) (N := 11) hx hb hts inX7 hown hK hP 0 rfl rfl 3 (by decide) (hts _ kw126) (fun _ h9 => h9) rfl dX7_nextToken_5 ?_
      refine lv_icmp_ge (tgt := 38) hx hb dX7_nextToken_8 (by decide) (fun c8 => ?_) (fun c8 => ?_)
      · have hf := hf.1 c8
        exact J38  t_at t_place t_token t_number hf _ _ _ hP hD hS (lv_sub hl [0] rfl)
      · have hf := hf.2 c8
        refine lv_aload_n hx hb dX7_nextToken_11 rfl (lv_at hl 0 rfl) ?_
        refine va_get (D := (dC, dI)) (ci := 7) (v := .ref aTl) (C := RX7) (T := TX7) (N := 11) hx hb hts inX7 hown hK hP 0 rfl rfl 0 (by decide) (hts _ kw121) (fun _ h9 => h9) rfl dX7_nextToken_12 ?_
        refine lv_aload_n hx hb dX7_nextToken_15 rfl (lv_at hl 0 rfl) ?_
        refine va_get (D := (dC, dI)) (ci := 7) (v := .int t_at) (C := RX7) (T := TX7) (N := 11) hx hb hts inX7 hown hK hP 0 rfl rfl 4 (by decide) (hts _ kw128) (fun _ h9 => h9) rfl dX7_nextToken_16 ?_
        obtain ⟨hin, hf⟩ := hf
        refine va_iald hx hb hK hP 1 0 rfl rfl hin dX7_nextToken_19 ?_
        refine lv_bipush (v := 32) hx hb dX7_nextToken_20 (by decide) ?_
        refine lv_icmp_ne (tgt := 38) hx hb dX7_nextToken_22 (by decide) (fun c22 => ?_) (fun c22 => ?_)
        · have hf := hf.1 c22
          exact J38  t_at t_place t_token t_number hf _ _ _ hP hD hS (lv_sub hl [0] rfl)
        · have hf := hf.2 c22
          refine lv_aload_n hx hb dX7_nextToken_25 rfl (lv_at hl 0 rfl) ?_
          refine lv_dup hx hb dX7_nextToken_26 rfl ?_
          refine va_get (D := (dC, dI)) (ci := 7) (v := .int t_at) (C := RX7) (T := TX7) (N := 11) hx hb hts inX7 hown hK hP 0 rfl rfl 4 (by decide) (hts _ kw128) (fun _ h9 => h9) rfl dX7_nextToken_27 ?_
          refine lv_iconst (v := 1) hx hb dX7_nextToken_30 (by decide) ?_
          refine lv_iadd hx hb dX7_nextToken_31 ?_
          refine lv_topi (fun x32_7 ex32_7 => ?_)
          have hf := hf x32_7 ex32_7
          refine va_put (D := (dC, dI)) (ci := 7) (v := .int x32_7) (ty := .int) (C := RX7) (T := TX7) (N := 11) hx hb hts inX7 tyX7 tyX7_ok nmX7 hown hK hP hD hS 0 rfl rfl 4 (by decide) (hts _ kw128) (fun _ h9 => h9) rfl (by decide +kernel) rfl rfl (Nat.le_of_ble_eq_true rfl) dX7_nextToken_32 (fun H locs hP hD hS => ?_)
          have hP : va_P (dC, dI) vwCl (wd_X7 cI cJ cZ cH aT aTl atH atE atEd atEf atEs atP atPh atPm atcE atcEd atcEf atcEs t_letters t_length x32_7 t_place t_token t_number t_rateTold t_wrapTold t_startTold th_rate th_wrap te_days te_firsts te_seconds te_size tp_held tp_most tp_start tp_heldInAll tce_days tce_firsts tce_seconds tce_size) H := hP
          have hD : va_D A (wd_X7 cI cJ cZ cH aT aTl atH atE atEd atEf atEs atP atPh atPm atcE atcEd atcEf atcEs t_letters t_length x32_7 t_place t_token t_number t_rateTold t_wrapTold t_startTold th_rate th_wrap te_days te_firsts te_seconds te_size tp_held tp_most tp_start tp_heldInAll tce_days tce_firsts tce_seconds tce_size) := hD
          refine lv_goto (tgt := 0) hx hb dX7_nextToken_35 (by decide) ?_
          exact hK0 x32_7 t_place t_token t_number hf _ _ _ hP hD hS (lv_sub hl [0] rfl)
  unfold wp_X7_nextToken at hf
  obtain ⟨n9, hf⟩ := hf
  exact L0  n9 t_at t_place t_token t_number hf _ _ _ hP hD hS (lv_sub hl [0] rfl)
abbrev rm_X0_isFull : Room := { frames := 0, cells := 0, slots := 0, locals := 0 }
set_option maxHeartbeats 4000000 in
set_option maxRecDepth 100000 in
theorem c_X0_isFull (l : Launch) (dC : Nat → ClassId) (dI : Nat → Nat → Nat) (cI cJ cZ cH : ClassId) (aE : Nat) (aEd : Nat) (aEf : Nat) (aEs : Nat) (sz : Nat) (N : Nat) (e_days : Nat → Int32) (e_firsts : Nat → Int32) (e_seconds : Nat → Int32) (e_size : Int32) {Q : Int32 → Prop} (hf : wp_X0_isFull N e_size Q) : Met l yX0_isFull (.code yX0_isFull cX0_isFull 1 (some .boolean) :: GW) rm_X0_isFull (va_Pc [.ref aE] (PX (dC, dI) cI cJ cZ cH (wd_X0 cI cJ cZ cH N aE aEd aEf aEs e_days e_firsts e_seconds e_size) sz)) (va_Qi (fun (r : Int32) (_u : Unit) => Q r ) (fun u t => BX (dC, dI) (wd_X0 cI cJ cZ cH N aE aEd aEf aEs e_days e_firsts e_seconds e_size) (va_A (wd_X0 cI cJ cZ cH N aE aEd aEf aEs e_days e_firsts e_seconds e_size) sz) t) (va_A (wd_X0 cI cJ cZ cH N aE aEd aEf aEs e_days e_firsts e_seconds e_size) sz)) 0 0 (va_A (wd_X0 cI cJ cZ cH N aE aEd aEf aEs e_days e_firsts e_seconds e_size) sz) := by
  refine Met_z (w1 := fun u : Unit => wd_X0 cI cJ cZ cH N aE aEd aEf aEs e_days e_firsts e_seconds e_size) (by decide) (Nat.le_of_ble_eq_true rfl) ?_
  intro p e s m below meth c A Z ls hsz hx hb hml hown hts hmn hA hP hK hN hD hS hl hRet
  have hown : s.vm.findClass "MilesKept$Entries" = some m.cls := hown
  have hl : lv_has ls 1 [(0, .ref aE)] := hl
  have J17 : ∀ (k0 : Int32), wp_X0_isFull_b17 N e_size Q  k0 → ∀ (H : Heap) (locs : List Loc) (ls : Array Slot), va_P (dC, dI) vwCl (wd_X0 cI cJ cZ cH N aE aEd aEf aEs e_days e_firsts e_seconds e_size) H → va_D A (wd_X0 cI cJ cZ cH N aE aEd aEf aEs e_days e_firsts e_seconds e_size) → va_S A s.heap H locs → lv_has ls 1 [] → W p l e rm_X0_isFull s m ([Value.ref aE] : List Value).toArray below meth c H locs 0 0 Z (F0 m 17 ls [.int k0]) := by
    intro  k0 hf H locs ls hP hD hS hl
    unfold wp_X0_isFull_b17 at hf
    obtain ⟨hz, hf⟩ := hf
    exact hRet _ _ _ _ k0 () hz hf hP hD hS dX0_isFull_17
  unfold wp_X0_isFull at hf
  refine lv_aload_n hx hb dX0_isFull_0 rfl (lv_at hl 0 rfl) ?_
  refine va_get (D := (dC, dI)) (ci := 0) (v := .int e_size) (C := RX0) (T := TX0) (N := 4) hx hb hts inX0 hown hK hP 0 rfl rfl 3 (by decide) (hts _ kw48) (fun _ h9 => h9) rfl dX0_isFull_1 ?_
  refine lv_aload_n hx hb dX0_isFull_4 rfl (lv_at hl 0 rfl) ?_
  refine va_get (D := (dC, dI)) (ci := 0) (v := .ref aEd) (C := RX0) (T := TX0) (N := 4) hx hb hts inX0 hown hK hP 0 rfl rfl 0 (by decide) (hts _ kw34) (fun _ h9 => h9) rfl dX0_isFull_5 ?_
  refine va_alen (v := nI N) hx hb hK hP 1 0 rfl rfl rfl dX0_isFull_8 ?_
  refine lv_icmp_lt (tgt := 16) hx hb dX0_isFull_9 (by decide) (fun c9 => ?_) (fun c9 => ?_)
  · have hf := hf.1 c9
    refine lv_iconst (v := 0) hx hb dX0_isFull_16 (by decide) ?_
    exact J17  (0 : Int32) hf _ _ _ hP hD hS (lv_sub hl [] rfl)
  · have hf := hf.2 c9
    refine lv_iconst (v := 1) hx hb dX0_isFull_12 (by decide) ?_
    refine lv_goto (tgt := 17) hx hb dX0_isFull_13 (by decide) ?_
    exact J17  (1 : Int32) hf _ _ _ hP hD hS (lv_sub hl [] rfl)
abbrev rm_X8_isWithin : Room := { frames := 0, cells := 0, slots := 0, locals := 0 }
set_option maxHeartbeats 4000000 in
set_option maxRecDepth 100000 in
theorem c_X8_isWithin (l : Launch) (dC : Nat → ClassId) (dI : Nat → Nat → Nat) (cI cJ cZ cH : ClassId) (sz : Nat) (p0 : Int32) (p1 : Int32) (p2 : Int32) {Q : Int32 → Prop} (hf : wp_X8_isWithin p0 p1 p2 Q) : Met l yX8_isWithin (.code yX8_isWithin cX8_isWithin 3 (some .boolean) :: GW) rm_X8_isWithin (va_Pc [.int p0, .int p1, .int p2] (PX (dC, dI) cI cJ cZ cH (wd_E cI cJ cZ cH ) sz)) (va_Qi (fun (r : Int32) (_u : Unit) => Q r ) (fun u t => BX (dC, dI) (wd_E cI cJ cZ cH ) (va_A (wd_E cI cJ cZ cH ) sz) t) (va_A (wd_E cI cJ cZ cH ) sz)) 0 0 (va_A (wd_E cI cJ cZ cH ) sz) := by
  refine Met_z (w1 := fun u : Unit => wd_E cI cJ cZ cH ) (by decide) (Nat.le_of_ble_eq_true rfl) ?_
  intro p e s m below meth c A Z ls hsz hx hb hml hown hts hmn hA hP hK hN hD hS hl hRet
  have hown : s.vm.findClass "MilesKept" = some m.cls := hown
  have hl : lv_has ls 3 [(0, .int p0), (1, .int p1), (2, .int p2)] := hl
  have J15 : ∀ (k0 : Int32), wp_X8_isWithin_b15 Q  k0 → ∀ (H : Heap) (locs : List Loc) (ls : Array Slot), va_P (dC, dI) vwCl (wd_E cI cJ cZ cH ) H → va_D A (wd_E cI cJ cZ cH ) → va_S A s.heap H locs → lv_has ls 3 [] → W p l e rm_X8_isWithin s m ([Value.int p0, Value.int p1, Value.int p2] : List Value).toArray below meth c H locs 0 0 Z (F0 m 15 ls [.int k0]) := by
    intro  k0 hf H locs ls hP hD hS hl
    unfold wp_X8_isWithin_b15 at hf
    obtain ⟨hz, hf⟩ := hf
    exact hRet _ _ _ _ k0 () hz hf hP hD hS dX8_isWithin_15
  have J14 : wp_X8_isWithin_b14 Q   → ∀ (H : Heap) (locs : List Loc) (ls : Array Slot), va_P (dC, dI) vwCl (wd_E cI cJ cZ cH ) H → va_D A (wd_E cI cJ cZ cH ) → va_S A s.heap H locs → lv_has ls 3 [] → W p l e rm_X8_isWithin s m ([Value.int p0, Value.int p1, Value.int p2] : List Value).toArray below meth c H locs 0 0 Z (F0 m 14 ls []) := by
    intro   hf H locs ls hP hD hS hl
    unfold wp_X8_isWithin_b14 at hf
    refine lv_iconst (v := 0) hx hb dX8_isWithin_14 (by decide) ?_
    exact J15  (0 : Int32) hf _ _ _ hP hD hS (lv_sub hl [] rfl)
  unfold wp_X8_isWithin at hf
  refine lv_iload_n hx hb dX8_isWithin_0 rfl (lv_at hl 0 rfl) ?_
  refine lv_iload_n hx hb dX8_isWithin_1 rfl (lv_at hl 1 rfl) ?_
  refine lv_icmp_lt (tgt := 14) hx hb dX8_isWithin_2 (by decide) (fun c2 => ?_) (fun c2 => ?_)
  · have hf := hf.1 c2
    exact J14   hf _ _ _ hP hD hS (lv_sub hl [] rfl)
  · have hf := hf.2 c2
    refine lv_iload_n hx hb dX8_isWithin_5 rfl (lv_at hl 0 rfl) ?_
    refine lv_iload_n hx hb dX8_isWithin_6 rfl (lv_at hl 2 rfl) ?_
    refine lv_icmp_gt (tgt := 14) hx hb dX8_isWithin_7 (by decide) (fun c7 => ?_) (fun c7 => ?_)
    · have hf := hf.1 c7
      exact J14   hf _ _ _ hP hD hS (lv_sub hl [] rfl)
    · have hf := hf.2 c7
      refine lv_iconst (v := 1) hx hb dX8_isWithin_10 (by decide) ?_
      refine lv_goto (tgt := 15) hx hb dX8_isWithin_11 (by decide) ?_
      exact J15  (1 : Int32) hf _ _ _ hP hD hS (lv_sub hl [] rfl)
abbrev rm_X7_nextNumber : Room := { frames := 3, cells := 0, slots := 0, locals := 61 }
set_option maxHeartbeats 4000000 in
set_option maxRecDepth 100000 in
theorem c_X7_nextNumber (l : Launch) (dC : Nat → ClassId) (dI : Nat → Nat → Nat) (cI cJ cZ cH : ClassId) (aT : Nat) (aTl : Nat) (atH : Nat) (atE : Nat) (atEd : Nat) (atEf : Nat) (atEs : Nat) (atP : Nat) (atPh : Nat) (atPm : Nat) (atcE : Nat) (atcEd : Nat) (atcEf : Nat) (atcEs : Nat) (sz : Nat) (t_letters : Nat → Int32) (t_length : Int32) (t_at : Int32) (t_place : Int32) (t_token : Int32) (t_number : Int32) (t_rateTold : Int32) (t_wrapTold : Int32) (t_startTold : Int32) (th_rate : Int32) (th_wrap : Int32) (te_days : Nat → Int32) (te_firsts : Nat → Int32) (te_seconds : Nat → Int32) (te_size : Int32) (tp_held : Nat → Int32) (tp_most : Nat → Int32) (tp_start : Int32) (tp_heldInAll : Int32) (tce_days : Nat → Int32) (tce_firsts : Nat → Int32) (tce_seconds : Nat → Int32) (tce_size : Int32) (p1 : Int32) (p2 : Int32) {Q : Int32 → Int32 → Int32 → Int32 → Int32 → Prop} (hf : wp_X7_nextNumber t_letters t_length t_at t_place t_token t_number p1 p2 Q) : Met l yX7_nextNumber (.code yX7_nextNumber cX7_nextNumber 3 (some .int) :: GW) rm_X7_nextNumber (va_Pc [.ref aT, .int p1, .int p2] (PX (dC, dI) cI cJ cZ cH (wd_X7 cI cJ cZ cH aT aTl atH atE atEd atEf atEs atP atPh atPm atcE atcEd atcEf atcEs t_letters t_length t_at t_place t_token t_number t_rateTold t_wrapTold t_startTold th_rate th_wrap te_days te_firsts te_seconds te_size tp_held tp_most tp_start tp_heldInAll tce_days tce_firsts tce_seconds tce_size) sz)) (va_Qi (fun (r : Int32) (u : Int32 × Int32 × Int32 × Int32) => Q r u.1 u.2.1 u.2.2.1 u.2.2.2) (fun u t => BX (dC, dI) (wd_X7 cI cJ cZ cH aT aTl atH atE atEd atEf atEs atP atPh atPm atcE atcEd atcEf atcEs t_letters t_length u.1 u.2.1 u.2.2.1 u.2.2.2 t_rateTold t_wrapTold t_startTold th_rate th_wrap te_days te_firsts te_seconds te_size tp_held tp_most tp_start tp_heldInAll tce_days tce_firsts tce_seconds tce_size) (va_A (wd_X7 cI cJ cZ cH aT aTl atH atE atEd atEf atEs atP atPh atPm atcE atcEd atcEf atcEs t_letters t_length t_at t_place t_token t_number t_rateTold t_wrapTold t_startTold th_rate th_wrap te_days te_firsts te_seconds te_size tp_held tp_most tp_start tp_heldInAll tce_days tce_firsts tce_seconds tce_size) sz) t) (va_A (wd_X7 cI cJ cZ cH aT aTl atH atE atEd atEf atEs atP atPh atPm atcE atcEd atcEf atcEs t_letters t_length t_at t_place t_token t_number t_rateTold t_wrapTold t_startTold th_rate th_wrap te_days te_firsts te_seconds te_size tp_held tp_most tp_start tp_heldInAll tce_days tce_firsts tce_seconds tce_size) sz)) 0 0 (va_A (wd_X7 cI cJ cZ cH aT aTl atH atE atEd atEf atEs atP atPh atPm atcE atcEd atcEf atcEs t_letters t_length t_at t_place t_token t_number t_rateTold t_wrapTold t_startTold th_rate th_wrap te_days te_firsts te_seconds te_size tp_held tp_most tp_start tp_heldInAll tce_days tce_firsts tce_seconds tce_size) sz) := by
  refine Met_i (w1 := fun u : Int32 × Int32 × Int32 × Int32 => wd_X7 cI cJ cZ cH aT aTl atH atE atEd atEf atEs atP atPh atPm atcE atcEd atcEf atcEs t_letters t_length u.1 u.2.1 u.2.2.1 u.2.2.2 t_rateTold t_wrapTold t_startTold th_rate th_wrap te_days te_firsts te_seconds te_size tp_held tp_most tp_start tp_heldInAll tce_days tce_firsts tce_seconds tce_size) (by decide) (Nat.le_of_ble_eq_true rfl) ?_
  intro p e s m below meth c A Z ls hsz hx hb hml hown hts hmn hA hP hK hN hD hS hl hRet
  have hown : s.vm.findClass "MilesKept$Teller" = some m.cls := hown
  have hl : lv_has ls 3 [(0, .ref aT), (1, .int p1), (2, .int p2)] := hl
  have J34 : ∀ (k0 : Int32) (t_at : Int32) (t_place : Int32) (t_token : Int32) (t_number : Int32), wp_X7_nextNumber_b34 t_letters t_length Q  k0 t_at t_place t_token t_number → ∀ (H : Heap) (locs : List Loc) (ls : Array Slot), va_P (dC, dI) vwCl (wd_X7 cI cJ cZ cH aT aTl atH atE atEd atEf atEs atP atPh atPm atcE atcEd atcEf atcEs t_letters t_length t_at t_place t_token t_number t_rateTold t_wrapTold t_startTold th_rate th_wrap te_days te_firsts te_seconds te_size tp_held tp_most tp_start tp_heldInAll tce_days tce_firsts tce_seconds tce_size) H → va_D A (wd_X7 cI cJ cZ cH aT aTl atH atE atEd atEf atEs atP atPh atPm atcE atcEd atcEf atcEs t_letters t_length t_at t_place t_token t_number t_rateTold t_wrapTold t_startTold th_rate th_wrap te_days te_firsts te_seconds te_size tp_held tp_most tp_start tp_heldInAll tce_days tce_firsts tce_seconds tce_size) → va_S A s.heap H locs → lv_has ls 3 [] → W p l e rm_X7_nextNumber s m ([Value.ref aT, Value.int p1, Value.int p2] : List Value).toArray below meth c H locs 0 0 Z (F0 m 34 ls [.int k0]) := by
    intro  k0 t_at t_place t_token t_number hf H locs ls hP hD hS hl
    unfold wp_X7_nextNumber_b34 at hf
    exact hRet _ _ _ _ k0 (t_at, t_place, t_token, t_number) hf hP hD hS dX7_nextNumber_34
  have J32 : ∀ (t_at : Int32) (t_place : Int32) (t_token : Int32) (t_number : Int32), wp_X7_nextNumber_b32 t_letters t_length Q  t_at t_place t_token t_number → ∀ (H : Heap) (locs : List Loc) (ls : Array Slot), va_P (dC, dI) vwCl (wd_X7 cI cJ cZ cH aT aTl atH atE atEd atEf atEs atP atPh atPm atcE atcEd atcEf atcEs t_letters t_length t_at t_place t_token t_number t_rateTold t_wrapTold t_startTold th_rate th_wrap te_days te_firsts te_seconds te_size tp_held tp_most tp_start tp_heldInAll tce_days tce_firsts tce_seconds tce_size) H → va_D A (wd_X7 cI cJ cZ cH aT aTl atH atE atEd atEf atEs atP atPh atPm atcE atcEd atcEf atcEs t_letters t_length t_at t_place t_token t_number t_rateTold t_wrapTold t_startTold th_rate th_wrap te_days te_firsts te_seconds te_size tp_held tp_most tp_start tp_heldInAll tce_days tce_firsts tce_seconds tce_size) → va_S A s.heap H locs → lv_has ls 3 [] → W p l e rm_X7_nextNumber s m ([Value.ref aT, Value.int p1, Value.int p2] : List Value).toArray below meth c H locs 0 0 Z (F0 m 32 ls []) := by
    intro  t_at t_place t_token t_number hf H locs ls hP hD hS hl
    unfold wp_X7_nextNumber_b32 at hf
    refine lv_bipush (v := (-9)) hx hb dX7_nextNumber_32 (by decide) ?_
    exact J34  (-9 : Int32) t_at t_place t_token t_number hf _ _ _ hP hD hS (lv_sub hl [] rfl)
  unfold wp_X7_nextNumber at hf
  refine lv_aload_n hx hb dX7_nextNumber_0 rfl (lv_at hl 0 rfl) ?_
  refine mk_v (w2 := fun u : Int32 × Int32 × Int32 × Int32 => wd_X7 cI cJ cZ cH aT aTl atH atE atEd atEf atEs atP atPh atPm atcE atcEd atcEf atcEs t_letters t_length u.1 u.2.1 u.2.2.1 u.2.2.2 t_rateTold t_wrapTold t_startTold th_rate th_wrap te_days te_firsts te_seconds te_size tp_held tp_most tp_start tp_heldInAll tce_days tce_firsts tce_seconds tce_size) (wc := wd_X7 cI cJ cZ cH aT aTl atH atE atEd atEf atEs atP atPh atPm atcE atcEd atcEf atcEs t_letters t_length t_at t_place t_token t_number t_rateTold t_wrapTold t_startTold th_rate th_wrap te_days te_firsts te_seconds te_size tp_held tp_most tp_start tp_heldInAll tce_days tce_firsts tce_seconds tce_size) hP hD hS hA [0, 1, 2, 3, 4, 5, 6, 7, 8, 9, 10, 11, 12, 13] [] [0, 1, 2, 3, 4, 5, 6, 7, 8, 9, 10, 11, 12, 13] rfl rfl rfl rfl (by decide) rfl (fun _ => rfl) (fun hPc hDc => va_runV (As := []) (rest := []) ⟨hx, hb, hml, hown, hts⟩ (c_X7_nextToken l dC dI cI cJ cZ cH aT aTl atH atE atEd atEf atEs atP atPh atPm atcE atcEd atcEf atcEs s.heap.size t_letters t_length t_at t_place t_token t_number t_rateTold t_wrapTold t_startTold th_rate th_wrap te_days te_firsts te_seconds te_size tp_held tp_most tp_start tp_heldInAll tce_days tce_firsts tce_seconds tce_size hf) (cwV 0 hts (gV kw444 kw446 kp17 kw5 kw447) rfl rfl rfl (by decide +kernel) ⟨Nat.le_of_ble_eq_true rfl, Nat.le_of_ble_eq_true rfl⟩) ⟨PX_blind, va_recv hK hPc (ci := 7) (q0 := 0) rfl rfl, PX_pre hPc hDc hK hN⟩ rfl rfl hl.1 rfl (lv_room (Nat.le_of_ble_eq_true rfl)) dX7_nextNumber_1 ⟨Nat.le_of_ble_eq_true rfl, Nat.le_of_ble_eq_true rfl⟩) (fun u H locs hf hP hD hS => ?_)
  obtain ⟨t_at_1_1, t_place_1_2, t_token_1_3, t_number_1_4⟩ := u
  try dsimp only at hf
  have hP : va_P (dC, dI) vwCl (wd_X7 cI cJ cZ cH aT aTl atH atE atEd atEf atEs atP atPh atPm atcE atcEd atcEf atcEs t_letters t_length t_at_1_1 t_place_1_2 t_token_1_3 t_number_1_4 t_rateTold t_wrapTold t_startTold th_rate th_wrap te_days te_firsts te_seconds te_size tp_held tp_most tp_start tp_heldInAll tce_days tce_firsts tce_seconds tce_size) H := hP
  have hD : va_D A (wd_X7 cI cJ cZ cH aT aTl atH atE atEd atEf atEs atP atPh atPm atcE atcEd atcEf atcEs t_letters t_length t_at_1_1 t_place_1_2 t_token_1_3 t_number_1_4 t_rateTold t_wrapTold t_startTold th_rate th_wrap te_days te_firsts te_seconds te_size tp_held tp_most tp_start tp_heldInAll tce_days tce_firsts tce_seconds tce_size) := hD
  refine lv_aload_n hx hb dX7_nextNumber_4 rfl (lv_at hl 0 rfl) ?_
  refine va_get (D := (dC, dI)) (ci := 7) (v := .int t_token_1_3) (C := RX7) (T := TX7) (N := 11) hx hb hts inX7 hown hK hP 0 rfl rfl 6 (by decide) (hts _ kw130) (fun _ h9 => h9) rfl dX7_nextNumber_5 ?_
  refine lv_bipush (v := (-2)) hx hb dX7_nextNumber_8 (by decide) ?_
  refine lv_icmp_ne (tgt := 32) hx hb dX7_nextNumber_10 (by decide) (fun c10 => ?_) (fun c10 => ?_)
  · have hf := hf.1 c10
    exact J32  t_at_1_1 t_place_1_2 t_token_1_3 t_number_1_4 hf _ _ _ hP hD hS (lv_sub hl [] rfl)
  · have hf := hf.2 c10
    refine lv_aload_n hx hb dX7_nextNumber_13 rfl (lv_at hl 0 rfl) ?_
    refine va_get (D := (dC, dI)) (ci := 7) (v := .int t_number_1_4) (C := RX7) (T := TX7) (N := 11) hx hb hts inX7 hown hK hP 0 rfl rfl 7 (by decide) (hts _ kw131) (fun _ h9 => h9) rfl dX7_nextNumber_14 ?_
    refine lv_iload_n hx hb dX7_nextNumber_17 rfl (lv_at hl 1 rfl) ?_
    refine lv_iload_n hx hb dX7_nextNumber_18 rfl (lv_at hl 2 rfl) ?_
    refine mk_i (w2 := fun u : Unit => wd_X7 cI cJ cZ cH aT aTl atH atE atEd atEf atEs atP atPh atPm atcE atcEd atcEf atcEs t_letters t_length t_at_1_1 t_place_1_2 t_token_1_3 t_number_1_4 t_rateTold t_wrapTold t_startTold th_rate th_wrap te_days te_firsts te_seconds te_size tp_held tp_most tp_start tp_heldInAll tce_days tce_firsts tce_seconds tce_size) (wc := wd_E cI cJ cZ cH ) hP hD hS hA [] [0, 1, 2, 3, 4, 5, 6, 7, 8, 9, 10, 11, 12, 13] [0, 1, 2, 3, 4, 5, 6, 7, 8, 9, 10, 11, 12, 13] rfl rfl rfl rfl (by decide) rfl (fun _ => rfl) (fun hPc hDc => va_runSN (As := [.int t_number_1_4, .int p1, .int p2]) (rest := []) ⟨hx, hb, hml, hown, hts⟩ (c_X8_isWithin l dC dI cI cJ cZ cH H.size t_number_1_4 p1 p2 hf) ⟨va_cnB 3 hts (gI kw472) rfl rfl rfl hN.2.2.2.2.2.2.1 (hts _ kw1) (by decide +kernel) ⟨Nat.le_of_ble_eq_true rfl, Nat.le_of_ble_eq_true rfl⟩, hts _ kw471, trivial⟩ ⟨PX_blind, PX_pre hPc hDc hK hN⟩ rfl rfl hl.1 rfl (lv_room (Nat.le_of_ble_eq_true rfl)) dX7_nextNumber_19 ⟨Nat.le_of_ble_eq_true rfl, Nat.le_of_ble_eq_true rfl⟩) (fun r19_5 u H locs hf hP hD hS => ?_)
    try dsimp only at hf
    have hP : va_P (dC, dI) vwCl (wd_X7 cI cJ cZ cH aT aTl atH atE atEd atEf atEs atP atPh atPm atcE atcEd atcEf atcEs t_letters t_length t_at_1_1 t_place_1_2 t_token_1_3 t_number_1_4 t_rateTold t_wrapTold t_startTold th_rate th_wrap te_days te_firsts te_seconds te_size tp_held tp_most tp_start tp_heldInAll tce_days tce_firsts tce_seconds tce_size) H := hP
    have hD : va_D A (wd_X7 cI cJ cZ cH aT aTl atH atE atEd atEf atEs atP atPh atPm atcE atcEd atcEf atcEs t_letters t_length t_at_1_1 t_place_1_2 t_token_1_3 t_number_1_4 t_rateTold t_wrapTold t_startTold th_rate th_wrap te_days te_firsts te_seconds te_size tp_held tp_most tp_start tp_heldInAll tce_days tce_firsts tce_seconds tce_size) := hD
    refine lv_if_eq (tgt := 32) hx hb dX7_nextNumber_22 (by decide) (fun c22 => ?_) (fun c22 => ?_)
    · have hf := hf.1 c22
      exact J32  t_at_1_1 t_place_1_2 t_token_1_3 t_number_1_4 hf _ _ _ hP hD hS (lv_sub hl [] rfl)
    · have hf := hf.2 c22
      refine lv_aload_n hx hb dX7_nextNumber_25 rfl (lv_at hl 0 rfl) ?_
      refine va_get (D := (dC, dI)) (ci := 7) (v := .int t_number_1_4) (C := RX7) (T := TX7) (N := 11) hx hb hts inX7 hown hK hP 0 rfl rfl 7 (by decide) (hts _ kw131) (fun _ h9 => h9) rfl dX7_nextNumber_26 ?_
      refine lv_goto (tgt := 34) hx hb dX7_nextNumber_29 (by decide) ?_
      exact J34  t_number_1_4 t_at_1_1 t_place_1_2 t_token_1_3 t_number_1_4 hf _ _ _ hP hD hS (lv_sub hl [] rfl)
abbrev rm_X7_nextEnds : Room := { frames := 3, cells := 0, slots := 0, locals := 61 }
set_option maxHeartbeats 4000000 in
set_option maxRecDepth 100000 in
theorem c_X7_nextEnds (l : Launch) (dC : Nat → ClassId) (dI : Nat → Nat → Nat) (cI cJ cZ cH : ClassId) (aT : Nat) (aTl : Nat) (atH : Nat) (atE : Nat) (atEd : Nat) (atEf : Nat) (atEs : Nat) (atP : Nat) (atPh : Nat) (atPm : Nat) (atcE : Nat) (atcEd : Nat) (atcEf : Nat) (atcEs : Nat) (sz : Nat) (t_letters : Nat → Int32) (t_length : Int32) (t_at : Int32) (t_place : Int32) (t_token : Int32) (t_number : Int32) (t_rateTold : Int32) (t_wrapTold : Int32) (t_startTold : Int32) (th_rate : Int32) (th_wrap : Int32) (te_days : Nat → Int32) (te_firsts : Nat → Int32) (te_seconds : Nat → Int32) (te_size : Int32) (tp_held : Nat → Int32) (tp_most : Nat → Int32) (tp_start : Int32) (tp_heldInAll : Int32) (tce_days : Nat → Int32) (tce_firsts : Nat → Int32) (tce_seconds : Nat → Int32) (tce_size : Int32) {Q : Int32 → Int32 → Int32 → Int32 → Int32 → Prop} (hf : wp_X7_nextEnds t_letters t_length t_at t_place t_token t_number Q) : Met l yX7_nextEnds (.code yX7_nextEnds cX7_nextEnds 1 (some .boolean) :: GW) rm_X7_nextEnds (va_Pc [.ref aT] (PX (dC, dI) cI cJ cZ cH (wd_X7 cI cJ cZ cH aT aTl atH atE atEd atEf atEs atP atPh atPm atcE atcEd atcEf atcEs t_letters t_length t_at t_place t_token t_number t_rateTold t_wrapTold t_startTold th_rate th_wrap te_days te_firsts te_seconds te_size tp_held tp_most tp_start tp_heldInAll tce_days tce_firsts tce_seconds tce_size) sz)) (va_Qi (fun (r : Int32) (u : Int32 × Int32 × Int32 × Int32) => Q r u.1 u.2.1 u.2.2.1 u.2.2.2) (fun u t => BX (dC, dI) (wd_X7 cI cJ cZ cH aT aTl atH atE atEd atEf atEs atP atPh atPm atcE atcEd atcEf atcEs t_letters t_length u.1 u.2.1 u.2.2.1 u.2.2.2 t_rateTold t_wrapTold t_startTold th_rate th_wrap te_days te_firsts te_seconds te_size tp_held tp_most tp_start tp_heldInAll tce_days tce_firsts tce_seconds tce_size) (va_A (wd_X7 cI cJ cZ cH aT aTl atH atE atEd atEf atEs atP atPh atPm atcE atcEd atcEf atcEs t_letters t_length t_at t_place t_token t_number t_rateTold t_wrapTold t_startTold th_rate th_wrap te_days te_firsts te_seconds te_size tp_held tp_most tp_start tp_heldInAll tce_days tce_firsts tce_seconds tce_size) sz) t) (va_A (wd_X7 cI cJ cZ cH aT aTl atH atE atEd atEf atEs atP atPh atPm atcE atcEd atcEf atcEs t_letters t_length t_at t_place t_token t_number t_rateTold t_wrapTold t_startTold th_rate th_wrap te_days te_firsts te_seconds te_size tp_held tp_most tp_start tp_heldInAll tce_days tce_firsts tce_seconds tce_size) sz)) 0 0 (va_A (wd_X7 cI cJ cZ cH aT aTl atH atE atEd atEf atEs atP atPh atPm atcE atcEd atcEf atcEs t_letters t_length t_at t_place t_token t_number t_rateTold t_wrapTold t_startTold th_rate th_wrap te_days te_firsts te_seconds te_size tp_held tp_most tp_start tp_heldInAll tce_days tce_firsts tce_seconds tce_size) sz) := by
  refine Met_z (w1 := fun u : Int32 × Int32 × Int32 × Int32 => wd_X7 cI cJ cZ cH aT aTl atH atE atEd atEf atEs atP atPh atPm atcE atcEd atcEf atcEs t_letters t_length u.1 u.2.1 u.2.2.1 u.2.2.2 t_rateTold t_wrapTold t_startTold th_rate th_wrap te_days te_firsts te_seconds te_size tp_held tp_most tp_start tp_heldInAll tce_days tce_firsts tce_seconds tce_size) (by decide) (Nat.le_of_ble_eq_true rfl) ?_
  intro p e s m below meth c A Z ls hsz hx hb hml hown hts hmn hA hP hK hN hD hS hl hRet
  have hown : s.vm.findClass "MilesKept$Teller" = some m.cls := hown
  have hl : lv_has ls 1 [(0, .ref aT)] := hl
  have J18 : ∀ (k0 : Int32) (t_at : Int32) (t_place : Int32) (t_token : Int32) (t_number : Int32), wp_X7_nextEnds_b18 t_letters t_length Q  k0 t_at t_place t_token t_number → ∀ (H : Heap) (locs : List Loc) (ls : Array Slot), va_P (dC, dI) vwCl (wd_X7 cI cJ cZ cH aT aTl atH atE atEd atEf atEs atP atPh atPm atcE atcEd atcEf atcEs t_letters t_length t_at t_place t_token t_number t_rateTold t_wrapTold t_startTold th_rate th_wrap te_days te_firsts te_seconds te_size tp_held tp_most tp_start tp_heldInAll tce_days tce_firsts tce_seconds tce_size) H → va_D A (wd_X7 cI cJ cZ cH aT aTl atH atE atEd atEf atEs atP atPh atPm atcE atcEd atcEf atcEs t_letters t_length t_at t_place t_token t_number t_rateTold t_wrapTold t_startTold th_rate th_wrap te_days te_firsts te_seconds te_size tp_held tp_most tp_start tp_heldInAll tce_days tce_firsts tce_seconds tce_size) → va_S A s.heap H locs → lv_has ls 1 [] → W p l e rm_X7_nextEnds s m ([Value.ref aT] : List Value).toArray below meth c H locs 0 0 Z (F0 m 18 ls [.int k0]) := by
    intro  k0 t_at t_place t_token t_number hf H locs ls hP hD hS hl
    unfold wp_X7_nextEnds_b18 at hf
    obtain ⟨hz, hf⟩ := hf
    exact hRet _ _ _ _ k0 (t_at, t_place, t_token, t_number) hz hf hP hD hS dX7_nextEnds_18
  unfold wp_X7_nextEnds at hf
  refine lv_aload_n hx hb dX7_nextEnds_0 rfl (lv_at hl 0 rfl) ?_
  refine mk_v (w2 := fun u : Int32 × Int32 × Int32 × Int32 => wd_X7 cI cJ cZ cH aT aTl atH atE atEd atEf atEs atP atPh atPm atcE atcEd atcEf atcEs t_letters t_length u.1 u.2.1 u.2.2.1 u.2.2.2 t_rateTold t_wrapTold t_startTold th_rate th_wrap te_days te_firsts te_seconds te_size tp_held tp_most tp_start tp_heldInAll tce_days tce_firsts tce_seconds tce_size) (wc := wd_X7 cI cJ cZ cH aT aTl atH atE atEd atEf atEs atP atPh atPm atcE atcEd atcEf atcEs t_letters t_length t_at t_place t_token t_number t_rateTold t_wrapTold t_startTold th_rate th_wrap te_days te_firsts te_seconds te_size tp_held tp_most tp_start tp_heldInAll tce_days tce_firsts tce_seconds tce_size) hP hD hS hA [0, 1, 2, 3, 4, 5, 6, 7, 8, 9, 10, 11, 12, 13] [] [0, 1, 2, 3, 4, 5, 6, 7, 8, 9, 10, 11, 12, 13] rfl rfl rfl rfl (by decide) rfl (fun _ => rfl) (fun hPc hDc => va_runV (As := []) (rest := []) ⟨hx, hb, hml, hown, hts⟩ (c_X7_nextToken l dC dI cI cJ cZ cH aT aTl atH atE atEd atEf atEs atP atPh atPm atcE atcEd atcEf atcEs s.heap.size t_letters t_length t_at t_place t_token t_number t_rateTold t_wrapTold t_startTold th_rate th_wrap te_days te_firsts te_seconds te_size tp_held tp_most tp_start tp_heldInAll tce_days tce_firsts tce_seconds tce_size hf) (cwV 0 hts (gV kw444 kw446 kp17 kw5 kw447) rfl rfl rfl (by decide +kernel) ⟨Nat.le_of_ble_eq_true rfl, Nat.le_of_ble_eq_true rfl⟩) ⟨PX_blind, va_recv hK hPc (ci := 7) (q0 := 0) rfl rfl, PX_pre hPc hDc hK hN⟩ rfl rfl hl.1 rfl (lv_room (Nat.le_of_ble_eq_true rfl)) dX7_nextEnds_1 ⟨Nat.le_of_ble_eq_true rfl, Nat.le_of_ble_eq_true rfl⟩) (fun u H locs hf hP hD hS => ?_)
  obtain ⟨t_at_1_1, t_place_1_2, t_token_1_3, t_number_1_4⟩ := u
  try dsimp only at hf
  have hP : va_P (dC, dI) vwCl (wd_X7 cI cJ cZ cH aT aTl atH atE atEd atEf atEs atP atPh atPm atcE atcEd atcEf atcEs t_letters t_length t_at_1_1 t_place_1_2 t_token_1_3 t_number_1_4 t_rateTold t_wrapTold t_startTold th_rate th_wrap te_days te_firsts te_seconds te_size tp_held tp_most tp_start tp_heldInAll tce_days tce_firsts tce_seconds tce_size) H := hP
  have hD : va_D A (wd_X7 cI cJ cZ cH aT aTl atH atE atEd atEf atEs atP atPh atPm atcE atcEd atcEf atcEs t_letters t_length t_at_1_1 t_place_1_2 t_token_1_3 t_number_1_4 t_rateTold t_wrapTold t_startTold th_rate th_wrap te_days te_firsts te_seconds te_size tp_held tp_most tp_start tp_heldInAll tce_days tce_firsts tce_seconds tce_size) := hD
  refine lv_aload_n hx hb dX7_nextEnds_4 rfl (lv_at hl 0 rfl) ?_
  refine va_get (D := (dC, dI)) (ci := 7) (v := .int t_token_1_3) (C := RX7) (T := TX7) (N := 11) hx hb hts inX7 hown hK hP 0 rfl rfl 6 (by decide) (hts _ kw130) (fun _ h9 => h9) rfl dX7_nextEnds_5 ?_
  refine lv_bipush (v := 59) hx hb dX7_nextEnds_8 (by decide) ?_
  refine lv_icmp_ne (tgt := 17) hx hb dX7_nextEnds_10 (by decide) (fun c10 => ?_) (fun c10 => ?_)
  · have hf := hf.1 c10
    refine lv_iconst (v := 0) hx hb dX7_nextEnds_17 (by decide) ?_
    exact J18  (0 : Int32) t_at_1_1 t_place_1_2 t_token_1_3 t_number_1_4 hf _ _ _ hP hD hS (lv_sub hl [] rfl)
  · have hf := hf.2 c10
    refine lv_iconst (v := 1) hx hb dX7_nextEnds_13 (by decide) ?_
    refine lv_goto (tgt := 18) hx hb dX7_nextEnds_14 (by decide) ?_
    exact J18  (1 : Int32) t_at_1_1 t_place_1_2 t_token_1_3 t_number_1_4 hf _ _ _ hP hD hS (lv_sub hl [] rfl)
abbrev rm_X0_has : Room := { frames := 0, cells := 0, slots := 0, locals := 0 }
set_option maxHeartbeats 4000000 in
set_option maxRecDepth 100000 in
theorem c_X0_has (l : Launch) (dC : Nat → ClassId) (dI : Nat → Nat → Nat) (cI cJ cZ cH : ClassId) (aE : Nat) (aEd : Nat) (aEf : Nat) (aEs : Nat) (sz : Nat) (N : Nat) (e_days : Nat → Int32) (e_firsts : Nat → Int32) (e_seconds : Nat → Int32) (e_size : Int32) (p1 : Int32) {Q : Int32 → Prop} (hf : wp_X0_has N e_size p1 Q) : Met l yX0_has (.code yX0_has cX0_has 2 (some .boolean) :: GW) rm_X0_has (va_Pc [.ref aE, .int p1] (PX (dC, dI) cI cJ cZ cH (wd_X0 cI cJ cZ cH N aE aEd aEf aEs e_days e_firsts e_seconds e_size) sz)) (va_Qi (fun (r : Int32) (_u : Unit) => Q r ) (fun u t => BX (dC, dI) (wd_X0 cI cJ cZ cH N aE aEd aEf aEs e_days e_firsts e_seconds e_size) (va_A (wd_X0 cI cJ cZ cH N aE aEd aEf aEs e_days e_firsts e_seconds e_size) sz) t) (va_A (wd_X0 cI cJ cZ cH N aE aEd aEf aEs e_days e_firsts e_seconds e_size) sz)) 0 0 (va_A (wd_X0 cI cJ cZ cH N aE aEd aEf aEs e_days e_firsts e_seconds e_size) sz) := by
  refine Met_z (w1 := fun u : Unit => wd_X0 cI cJ cZ cH N aE aEd aEf aEs e_days e_firsts e_seconds e_size) (by decide) (Nat.le_of_ble_eq_true rfl) ?_
  intro p e s m below meth c A Z ls hsz hx hb hml hown hts hmn hA hP hK hN hD hS hl hRet
  have hown : s.vm.findClass "MilesKept$Entries" = some m.cls := hown
  have hl : lv_has ls 2 [(0, .ref aE), (1, .int p1)] := hl
  have J17 : ∀ (k0 : Int32), wp_X0_has_b17 N e_size Q  k0 → ∀ (H : Heap) (locs : List Loc) (ls : Array Slot), va_P (dC, dI) vwCl (wd_X0 cI cJ cZ cH N aE aEd aEf aEs e_days e_firsts e_seconds e_size) H → va_D A (wd_X0 cI cJ cZ cH N aE aEd aEf aEs e_days e_firsts e_seconds e_size) → va_S A s.heap H locs → lv_has ls 2 [] → W p l e rm_X0_has s m ([Value.ref aE, Value.int p1] : List Value).toArray below meth c H locs 0 0 Z (F0 m 17 ls [.int k0]) := by
    intro  k0 hf H locs ls hP hD hS hl
    unfold wp_X0_has_b17 at hf
    obtain ⟨hz, hf⟩ := hf
    exact hRet _ _ _ _ k0 () hz hf hP hD hS dX0_has_17
  have J16 : wp_X0_has_b16 N e_size Q   → ∀ (H : Heap) (locs : List Loc) (ls : Array Slot), va_P (dC, dI) vwCl (wd_X0 cI cJ cZ cH N aE aEd aEf aEs e_days e_firsts e_seconds e_size) H → va_D A (wd_X0 cI cJ cZ cH N aE aEd aEf aEs e_days e_firsts e_seconds e_size) → va_S A s.heap H locs → lv_has ls 2 [] → W p l e rm_X0_has s m ([Value.ref aE, Value.int p1] : List Value).toArray below meth c H locs 0 0 Z (F0 m 16 ls []) := by
    intro   hf H locs ls hP hD hS hl
    unfold wp_X0_has_b16 at hf
    refine lv_iconst (v := 0) hx hb dX0_has_16 (by decide) ?_
    exact J17  (0 : Int32) hf _ _ _ hP hD hS (lv_sub hl [] rfl)
  unfold wp_X0_has at hf
  refine lv_iload_n hx hb dX0_has_0 rfl (lv_at hl 1 rfl) ?_
  refine lv_if_lt (tgt := 16) hx hb dX0_has_1 (by decide) (fun c1 => ?_) (fun c1 => ?_)
  · have hf := hf.1 c1
    exact J16   hf _ _ _ hP hD hS (lv_sub hl [] rfl)
  · have hf := hf.2 c1
    refine lv_iload_n hx hb dX0_has_4 rfl (lv_at hl 1 rfl) ?_
    refine lv_aload_n hx hb dX0_has_5 rfl (lv_at hl 0 rfl) ?_
    refine va_get (D := (dC, dI)) (ci := 0) (v := .int e_size) (C := RX0) (T := TX0) (N := 4) hx hb hts inX0 hown hK hP 0 rfl rfl 3 (by decide) (hts _ kw48) (fun _ h9 => h9) rfl dX0_has_6 ?_
    refine lv_icmp_ge (tgt := 16) hx hb dX0_has_9 (by decide) (fun c9 => ?_) (fun c9 => ?_)
    · have hf := hf.1 c9
      exact J16   hf _ _ _ hP hD hS (lv_sub hl [] rfl)
    · have hf := hf.2 c9
      refine lv_iconst (v := 1) hx hb dX0_has_12 (by decide) ?_
      refine lv_goto (tgt := 17) hx hb dX0_has_13 (by decide) ?_
      exact J17  (1 : Int32) hf _ _ _ hP hD hS (lv_sub hl [] rfl)
abbrev rm_X0_put : Room := { frames := 1, cells := 0, slots := 0, locals := 21 }
set_option maxHeartbeats 4000000 in
set_option maxRecDepth 100000 in
theorem c_X0_put (l : Launch) (dC : Nat → ClassId) (dI : Nat → Nat → Nat) (cI cJ cZ cH : ClassId) (aE : Nat) (aEd : Nat) (aEf : Nat) (aEs : Nat) (sz : Nat) (N : Nat) (e_days : Nat → Int32) (e_firsts : Nat → Int32) (e_seconds : Nat → Int32) (e_size : Int32) (p1 : Int32) (p2 : Int32) (p3 : Int32) (p4 : Int32) {Q : (Nat → Int32) → (Nat → Int32) → (Nat → Int32) → Prop} (hf : wp_X0_put N e_size e_days e_firsts e_seconds p1 p2 p3 p4 Q) : Met l yX0_put (.code yX0_put cX0_put 5 none :: GW) rm_X0_put (va_Pc [.ref aE, .int p1, .int p2, .int p3, .int p4] (PX (dC, dI) cI cJ cZ cH (wd_X0 cI cJ cZ cH N aE aEd aEf aEs e_days e_firsts e_seconds e_size) sz)) (va_Qv (fun (u : (Nat → Int32) × (Nat → Int32) × (Nat → Int32)) => Q u.1 u.2.1 u.2.2) (fun u t => BX (dC, dI) (wd_X0 cI cJ cZ cH N aE aEd aEf aEs u.1 u.2.1 u.2.2 e_size) (va_A (wd_X0 cI cJ cZ cH N aE aEd aEf aEs e_days e_firsts e_seconds e_size) sz) t) (va_A (wd_X0 cI cJ cZ cH N aE aEd aEf aEs e_days e_firsts e_seconds e_size) sz)) 0 0 (va_A (wd_X0 cI cJ cZ cH N aE aEd aEf aEs e_days e_firsts e_seconds e_size) sz) := by
  refine Met_v (w1 := fun u : (Nat → Int32) × (Nat → Int32) × (Nat → Int32) => wd_X0 cI cJ cZ cH N aE aEd aEf aEs u.1 u.2.1 u.2.2 e_size) (by decide) (Nat.le_of_ble_eq_true rfl) ?_
  intro p e s m below meth c A Z ls hsz hx hb hml hown hts hmn hA hP hK hN hD hS hl hRet
  have hown : s.vm.findClass "MilesKept$Entries" = some m.cls := hown
  have hl : lv_has ls 5 [(0, .ref aE), (1, .int p1), (2, .int p2), (3, .int p3), (4, .int p4)] := hl
  unfold wp_X0_put at hf
  refine lv_aload_n hx hb dX0_put_0 rfl (lv_at hl 0 rfl) ?_
  refine lv_iload_n hx hb dX0_put_1 rfl (lv_at hl 1 rfl) ?_
  refine mk_i (w2 := fun u : Unit => wd_X0 cI cJ cZ cH N aE aEd aEf aEs e_days e_firsts e_seconds e_size) (wc := wd_X0 cI cJ cZ cH N aE aEd aEf aEs e_days e_firsts e_seconds e_size) hP hD hS hA [0, 1, 2, 3] [] [0, 1, 2, 3] rfl rfl rfl rfl (by decide) rfl (fun _ => rfl) (fun hPc hDc => va_runV (As := [.int p1]) (rest := []) ⟨hx, hb, hml, hown, hts⟩ (c_X0_has l dC dI cI cJ cZ cH aE aEd aEf aEs s.heap.size N e_days e_firsts e_seconds e_size p1 hf) (cwV 1 hts (gV kw486 kw487 kw488 kw3 kw489) rfl rfl rfl (by decide +kernel) ⟨Nat.le_of_ble_eq_true rfl, Nat.le_of_ble_eq_true rfl⟩) ⟨PX_blind, va_recv hK hPc (ci := 0) (q0 := 0) rfl rfl, PX_pre hPc hDc hK hN⟩ rfl rfl hl.1 rfl (lv_room (Nat.le_of_ble_eq_true rfl)) dX0_put_2 ⟨Nat.le_of_ble_eq_true rfl, Nat.le_of_ble_eq_true rfl⟩) (fun r2_1 u H locs hf hP hD hS => ?_)
  try dsimp only at hf
  have hP : va_P (dC, dI) vwCl (wd_X0 cI cJ cZ cH N aE aEd aEf aEs e_days e_firsts e_seconds e_size) H := hP
  have hD : va_D A (wd_X0 cI cJ cZ cH N aE aEd aEf aEs e_days e_firsts e_seconds e_size) := hD
  refine lv_if_ne (tgt := 9) hx hb dX0_put_5 (by decide) (fun c5 => ?_) (fun c5 => ?_)
  · have hf := hf.1 c5
    refine lv_aload_n hx hb dX0_put_9 rfl (lv_at hl 0 rfl) ?_
    refine va_get (D := (dC, dI)) (ci := 0) (v := .ref aEd) (C := RX0) (T := TX0) (N := 4) hx hb hts inX0 hown hK hP 0 rfl rfl 0 (by decide) (hts _ kw34) (fun _ h9 => h9) rfl dX0_put_10 ?_
    refine lv_iload_n hx hb dX0_put_13 rfl (lv_at hl 1 rfl) ?_
    refine lv_iload_n hx hb dX0_put_14 rfl (lv_at hl 2 rfl) ?_
    obtain ⟨hin, hf⟩ := hf
    refine va_iast hx hb hK hP hD hS 1 0 rfl rfl hin dX0_put_15 (fun H locs hP hD hS => ?_)
    have hP : va_P (dC, dI) vwCl (wd_X0 cI cJ cZ cH N aE aEd aEf aEs (upd e_days p1.toNatClampNeg p2) e_firsts e_seconds e_size) H := hP
    have hD : va_D A (wd_X0 cI cJ cZ cH N aE aEd aEf aEs (upd e_days p1.toNatClampNeg p2) e_firsts e_seconds e_size) := hD
    refine lv_aload_n hx hb dX0_put_16 rfl (lv_at hl 0 rfl) ?_
    refine va_get (D := (dC, dI)) (ci := 0) (v := .ref aEf) (C := RX0) (T := TX0) (N := 4) hx hb hts inX0 hown hK hP 0 rfl rfl 1 (by decide) (hts _ kw38) (fun _ h9 => h9) rfl dX0_put_17 ?_
    refine lv_iload_n hx hb dX0_put_20 rfl (lv_at hl 1 rfl) ?_
    refine lv_iload_n hx hb dX0_put_21 rfl (lv_at hl 3 rfl) ?_
    obtain ⟨hin, hf⟩ := hf
    refine va_iast hx hb hK hP hD hS 2 0 rfl rfl hin dX0_put_22 (fun H locs hP hD hS => ?_)
    have hP : va_P (dC, dI) vwCl (wd_X0 cI cJ cZ cH N aE aEd aEf aEs (upd e_days p1.toNatClampNeg p2) (upd e_firsts p1.toNatClampNeg p3) e_seconds e_size) H := hP
    have hD : va_D A (wd_X0 cI cJ cZ cH N aE aEd aEf aEs (upd e_days p1.toNatClampNeg p2) (upd e_firsts p1.toNatClampNeg p3) e_seconds e_size) := hD
    refine lv_aload_n hx hb dX0_put_23 rfl (lv_at hl 0 rfl) ?_
    refine va_get (D := (dC, dI)) (ci := 0) (v := .ref aEs) (C := RX0) (T := TX0) (N := 4) hx hb hts inX0 hown hK hP 0 rfl rfl 2 (by decide) (hts _ kw42) (fun _ h9 => h9) rfl dX0_put_24 ?_
    refine lv_iload_n hx hb dX0_put_27 rfl (lv_at hl 1 rfl) ?_
    refine lv_iload hx hb dX0_put_28 (lv_at hl 4 rfl) ?_
    obtain ⟨hin, hf⟩ := hf
    refine va_iast hx hb hK hP hD hS 3 0 rfl rfl hin dX0_put_30 (fun H locs hP hD hS => ?_)
    have hP : va_P (dC, dI) vwCl (wd_X0 cI cJ cZ cH N aE aEd aEf aEs (upd e_days p1.toNatClampNeg p2) (upd e_firsts p1.toNatClampNeg p3) (upd e_seconds p1.toNatClampNeg p4) e_size) H := hP
    have hD : va_D A (wd_X0 cI cJ cZ cH N aE aEd aEf aEs (upd e_days p1.toNatClampNeg p2) (upd e_firsts p1.toNatClampNeg p3) (upd e_seconds p1.toNatClampNeg p4) e_size) := hD
    exact hRet _ _ _ _ ((upd e_days p1.toNatClampNeg p2), (upd e_firsts p1.toNatClampNeg p3), (upd e_seconds p1.toNatClampNeg p4)) hf hP hD hS dX0_put_31
  · have hf := hf.2 c5
    exact hRet _ _ _ _ (e_days, e_firsts, e_seconds) hf hP hD hS dX0_put_8
abbrev rm_X0_insert : Room := { frames := 2, cells := 0, slots := 0, locals := 45 }
set_option maxHeartbeats 4000000 in
set_option maxRecDepth 100000 in
theorem c_X0_insert (l : Launch) (dC : Nat → ClassId) (dI : Nat → Nat → Nat) (cI cJ cZ cH : ClassId) (aE : Nat) (aEd : Nat) (aEf : Nat) (aEs : Nat) (sz : Nat) (N : Nat) (e_days : Nat → Int32) (e_firsts : Nat → Int32) (e_seconds : Nat → Int32) (e_size : Int32) (p1 : Int32) (p2 : Int32) (p3 : Int32) {Q : Int32 → (Nat → Int32) → (Nat → Int32) → (Nat → Int32) → Int32 → Prop} (hf : wp_X0_insert N e_days e_firsts e_seconds e_size p1 p2 p3 Q) : Met l yX0_insert (.code yX0_insert cX0_insert 5 (some .int) :: GW) rm_X0_insert (va_Pc [.ref aE, .int p1, .int p2, .int p3] (PX (dC, dI) cI cJ cZ cH (wd_X0 cI cJ cZ cH N aE aEd aEf aEs e_days e_firsts e_seconds e_size) sz)) (va_Qi (fun (r : Int32) (u : (Nat → Int32) × (Nat → Int32) × (Nat → Int32) × Int32) => Q r u.1 u.2.1 u.2.2.1 u.2.2.2) (fun u t => BX (dC, dI) (wd_X0 cI cJ cZ cH N aE aEd aEf aEs u.1 u.2.1 u.2.2.1 u.2.2.2) (va_A (wd_X0 cI cJ cZ cH N aE aEd aEf aEs e_days e_firsts e_seconds e_size) sz) t) (va_A (wd_X0 cI cJ cZ cH N aE aEd aEf aEs e_days e_firsts e_seconds e_size) sz)) 0 0 (va_A (wd_X0 cI cJ cZ cH N aE aEd aEf aEs e_days e_firsts e_seconds e_size) sz) := by
  refine Met_i (w1 := fun u : (Nat → Int32) × (Nat → Int32) × (Nat → Int32) × Int32 => wd_X0 cI cJ cZ cH N aE aEd aEf aEs u.1 u.2.1 u.2.2.1 u.2.2.2) (by decide) (Nat.le_of_ble_eq_true rfl) ?_
  intro p e s m below meth c A Z ls hsz hx hb hml hown hts hmn hA hP hK hN hD hS hl hRet
  have hown : s.vm.findClass "MilesKept$Entries" = some m.cls := hown
  have hl : lv_has ls 5 [(0, .ref aE), (1, .int p1), (2, .int p2), (3, .int p3)] := hl
  have J83 : ∀ (v1 : Int32) (v2 : Int32) (v3 : Int32) (v4 : Int32) (e_days : Nat → Int32) (e_firsts : Nat → Int32) (e_seconds : Nat → Int32) (e_size : Int32), wp_X0_insert_b83 N Q  v1 v2 v3 v4 e_days e_firsts e_seconds e_size → ∀ (H : Heap) (locs : List Loc) (ls : Array Slot), va_P (dC, dI) vwCl (wd_X0 cI cJ cZ cH N aE aEd aEf aEs e_days e_firsts e_seconds e_size) H → va_D A (wd_X0 cI cJ cZ cH N aE aEd aEf aEs e_days e_firsts e_seconds e_size) → va_S A s.heap H locs → lv_has ls 5 [(0, .ref aE), (1, .int v1), (2, .int v2), (3, .int v3), (4, .int v4)] → W p l e rm_X0_insert s m ([Value.ref aE, Value.int p1, Value.int p2, Value.int p3] : List Value).toArray below meth c H locs 0 0 Z (F0 m 83 ls []) := by
    intro  v1 v2 v3 v4 e_days e_firsts e_seconds e_size hf H locs ls hP hD hS hl
    unfold wp_X0_insert_b83 at hf
    refine lv_aload_n hx hb dX0_insert_83 rfl (lv_at hl 0 rfl) ?_
    refine lv_iload hx hb dX0_insert_84 (lv_at hl 4 rfl) ?_
    refine lv_iload_n hx hb dX0_insert_86 rfl (lv_at hl 1 rfl) ?_
    refine lv_iload_n hx hb dX0_insert_87 rfl (lv_at hl 2 rfl) ?_
    refine lv_iload_n hx hb dX0_insert_88 rfl (lv_at hl 3 rfl) ?_
    refine mk_v (w2 := fun u : (Nat → Int32) × (Nat → Int32) × (Nat → Int32) => wd_X0 cI cJ cZ cH N aE aEd aEf aEs u.1 u.2.1 u.2.2 e_size) (wc := wd_X0 cI cJ cZ cH N aE aEd aEf aEs e_days e_firsts e_seconds e_size) hP hD hS hA [0, 1, 2, 3] [] [0, 1, 2, 3] rfl rfl rfl rfl (by decide) rfl (fun _ => rfl) (fun hPc hDc => va_runV (As := [.int v4, .int v1, .int v2, .int v3]) (rest := []) ⟨hx, hb, hml, hown, hts⟩ (c_X0_put l dC dI cI cJ cZ cH aE aEd aEf aEs H.size N e_days e_firsts e_seconds e_size v4 v1 v2 v3 hf) (cwV 4 hts (gV kw482 kw483 kw484 kw3 kw485) rfl rfl rfl (by decide +kernel) ⟨Nat.le_of_ble_eq_true rfl, Nat.le_of_ble_eq_true rfl⟩) ⟨PX_blind, va_recv hK hPc (ci := 0) (q0 := 0) rfl rfl, PX_pre hPc hDc hK hN⟩ rfl rfl hl.1 rfl (lv_room (Nat.le_of_ble_eq_true rfl)) dX0_insert_89 ⟨Nat.le_of_ble_eq_true rfl, Nat.le_of_ble_eq_true rfl⟩) (fun u H locs hf hP hD hS => ?_)
    obtain ⟨e_days_89_1, e_firsts_89_2, e_seconds_89_3⟩ := u
    try dsimp only at hf
    have hP : va_P (dC, dI) vwCl (wd_X0 cI cJ cZ cH N aE aEd aEf aEs e_days_89_1 e_firsts_89_2 e_seconds_89_3 e_size) H := hP
    have hD : va_D A (wd_X0 cI cJ cZ cH N aE aEd aEf aEs e_days_89_1 e_firsts_89_2 e_seconds_89_3 e_size) := hD
    refine lv_iload hx hb dX0_insert_92 (lv_at hl 4 rfl) ?_
    exact hRet _ _ _ _ v4 (e_days_89_1, e_firsts_89_2, e_seconds_89_3, e_size) hf hP hD hS dX0_insert_94
  have L26 : ∀ (n : Nat) (v1 : Int32) (v2 : Int32) (v3 : Int32) (v4 : Int32) (e_days : Nat → Int32) (e_firsts : Nat → Int32) (e_seconds : Nat → Int32) (e_size : Int32), wp_X0_insert_h26 N Q  n v1 v2 v3 v4 e_days e_firsts e_seconds e_size → ∀ (H : Heap) (locs : List Loc) (ls : Array Slot), va_P (dC, dI) vwCl (wd_X0 cI cJ cZ cH N aE aEd aEf aEs e_days e_firsts e_seconds e_size) H → va_D A (wd_X0 cI cJ cZ cH N aE aEd aEf aEs e_days e_firsts e_seconds e_size) → va_S A s.heap H locs → lv_has ls 5 [(0, .ref aE), (1, .int v1), (2, .int v2), (3, .int v3), (4, .int v4)] → W p l e rm_X0_insert s m ([Value.ref aE, Value.int p1, Value.int p2, Value.int p3] : List Value).toArray below meth c H locs 0 0 Z (F0 m 26 ls []) := by
    intro n
    induction n with
    | zero =>
      intro v1 v2 v3 v4 e_days e_firsts e_seconds e_size hf
      exact False.elim hf
    | succ n hK26 =>
      intro v1 v2 v3 v4 e_days e_firsts e_seconds e_size hf H locs ls hP hD hS hl
      simp only [wp_X0_insert_h26] at hf
      refine lv_iload hx hb dX0_insert_26 (lv_at hl 4 rfl) ?_
      refine lv_if_le (tgt := 83) hx hb dX0_insert_28 (by decide) (fun c28 => ?_) (fun c28 => ?_)
      · have hf := hf.1 c28
        exact J83  v1 v2 v3 v4 e_days e_firsts e_seconds e_size hf _ _ _ hP hD hS (lv_sub hl [0, 1, 2, 3, 4] rfl)
      · have hf := hf.2 c28
        refine lv_aload_n hx hb dX0_insert_31 rfl (lv_at hl 0 rfl) ?_
        refine va_get (D := (dC, dI)) (ci := 0) (v := .ref aEd) (C := RX0) (T := TX0) (N := 4) hx hb hts inX0 hown hK hP 0 rfl rfl 0 (by decide) (hts _ kw34) (fun _ h9 => h9) rfl dX0_insert_32 ?_
        refine lv_iload hx hb dX0_insert_35 (lv_at hl 4 rfl) ?_
        refine lv_iconst (v := 1) hx hb dX0_insert_37 (by decide) ?_
        refine lv_isub hx hb dX0_insert_38 ?_
        obtain ⟨hin, hf⟩ := hf
        refine va_iald hx hb hK hP 1 0 rfl rfl hin dX0_insert_39 ?_
        refine lv_iload_n hx hb dX0_insert_40 rfl (lv_at hl 1 rfl) ?_
        refine lv_icmp_le (tgt := 83) hx hb dX0_insert_41 (by decide) (fun c41 => ?_) (fun c41 => ?_)
        · have hf := hf.1 c41
          exact J83  v1 v2 v3 v4 e_days e_firsts e_seconds e_size hf _ _ _ hP hD hS (lv_sub hl [0, 1, 2, 3, 4] rfl)
        · have hf := hf.2 c41
          refine lv_aload_n hx hb dX0_insert_44 rfl (lv_at hl 0 rfl) ?_
          refine lv_iload hx hb dX0_insert_45 (lv_at hl 4 rfl) ?_
          refine lv_aload_n hx hb dX0_insert_47 rfl (lv_at hl 0 rfl) ?_
          refine va_get (D := (dC, dI)) (ci := 0) (v := .ref aEd) (C := RX0) (T := TX0) (N := 4) hx hb hts inX0 hown hK hP 0 rfl rfl 0 (by decide) (hts _ kw34) (fun _ h9 => h9) rfl dX0_insert_48 ?_
          refine lv_iload hx hb dX0_insert_51 (lv_at hl 4 rfl) ?_
          refine lv_iconst (v := 1) hx hb dX0_insert_53 (by decide) ?_
          refine lv_isub hx hb dX0_insert_54 ?_
          obtain ⟨hin, hf⟩ := hf
          refine va_iald hx hb hK hP 1 0 rfl rfl hin dX0_insert_55 ?_
          refine lv_aload_n hx hb dX0_insert_56 rfl (lv_at hl 0 rfl) ?_
          refine va_get (D := (dC, dI)) (ci := 0) (v := .ref aEf) (C := RX0) (T := TX0) (N := 4) hx hb hts inX0 hown hK hP 0 rfl rfl 1 (by decide) (hts _ kw38) (fun _ h9 => h9) rfl dX0_insert_57 ?_
          refine lv_iload hx hb dX0_insert_60 (lv_at hl 4 rfl) ?_
          refine lv_iconst (v := 1) hx hb dX0_insert_62 (by decide) ?_
          refine lv_isub hx hb dX0_insert_63 ?_
          obtain ⟨hin, hf⟩ := hf
          refine va_iald hx hb hK hP 2 0 rfl rfl hin dX0_insert_64 ?_
          refine lv_aload_n hx hb dX0_insert_65 rfl (lv_at hl 0 rfl) ?_
          refine va_get (D := (dC, dI)) (ci := 0) (v := .ref aEs) (C := RX0) (T := TX0) (N := 4) hx hb hts inX0 hown hK hP 0 rfl rfl 2 (by decide) (hts _ kw42) (fun _ h9 => h9) rfl dX0_insert_66 ?_
          refine lv_iload hx hb dX0_insert_69 (lv_at hl 4 rfl) ?_
          refine lv_iconst (v := 1) hx hb dX0_insert_71 (by decide) ?_
          refine lv_isub hx hb dX0_insert_72 ?_
          obtain ⟨hin, hf⟩ := hf
          refine va_iald hx hb hK hP 3 0 rfl rfl hin dX0_insert_73 ?_
          refine mk_v (w2 := fun u : (Nat → Int32) × (Nat → Int32) × (Nat → Int32) => wd_X0 cI cJ cZ cH N aE aEd aEf aEs u.1 u.2.1 u.2.2 e_size) (wc := wd_X0 cI cJ cZ cH N aE aEd aEf aEs e_days e_firsts e_seconds e_size) hP hD hS hA [0, 1, 2, 3] [] [0, 1, 2, 3] rfl rfl rfl rfl (by decide) rfl (fun _ => rfl) (fun hPc hDc => va_runV (As := [.int v4, .int (e_days (v4 - (1 : Int32)).toNatClampNeg), .int (e_firsts (v4 - (1 : Int32)).toNatClampNeg), .int (e_seconds (v4 - (1 : Int32)).toNatClampNeg)]) (rest := []) ⟨hx, hb, hml, hown, hts⟩ (c_X0_put l dC dI cI cJ cZ cH aE aEd aEf aEs H.size N e_days e_firsts e_seconds e_size v4 (e_days (v4 - (1 : Int32)).toNatClampNeg) (e_firsts (v4 - (1 : Int32)).toNatClampNeg) (e_seconds (v4 - (1 : Int32)).toNatClampNeg) hf) (cwV 4 hts (gV kw482 kw483 kw484 kw3 kw485) rfl rfl rfl (by decide +kernel) ⟨Nat.le_of_ble_eq_true rfl, Nat.le_of_ble_eq_true rfl⟩) ⟨PX_blind, va_recv hK hPc (ci := 0) (q0 := 0) rfl rfl, PX_pre hPc hDc hK hN⟩ rfl rfl hl.1 rfl (lv_room (Nat.le_of_ble_eq_true rfl)) dX0_insert_74 ⟨Nat.le_of_ble_eq_true rfl, Nat.le_of_ble_eq_true rfl⟩) (fun u H locs hf hP hD hS => ?_)
          obtain ⟨e_days_74_4, e_firsts_74_5, e_seconds_74_6⟩ := u
          try dsimp only at hf
          have hP : va_P (dC, dI) vwCl (wd_X0 cI cJ cZ cH N aE aEd aEf aEs e_days_74_4 e_firsts_74_5 e_seconds_74_6 e_size) H := hP
          have hD : va_D A (wd_X0 cI cJ cZ cH N aE aEd aEf aEs e_days_74_4 e_firsts_74_5 e_seconds_74_6 e_size) := hD
          obtain ⟨x77_7, ex77_7⟩ : ∃ y : Int32, y = v4 + (-1) := ⟨_, rfl⟩
          have hf := hf x77_7 ex77_7
          refine lv_iinc (v := x77_7) (lv' := [(4, .int x77_7), (0, .ref aE), (1, .int v1), (2, .int v2), (3, .int v3)]) hx hb dX0_insert_77 hl (k := 4) rfl (by rw [ex77_7]; rfl) (by decide) rfl (fun ls hl => ?_)
          refine lv_goto (tgt := 26) hx hb dX0_insert_80 (by decide) ?_
          exact hK26 v1 v2 v3 x77_7 e_days_74_4 e_firsts_74_5 e_seconds_74_6 e_size hf _ _ _ hP hD hS (lv_sub hl [1, 2, 3, 4, 0] rfl)
  unfold wp_X0_insert at hf
  refine lv_aload_n hx hb dX0_insert_0 rfl (lv_at hl 0 rfl) ?_
  refine mk_i (w2 := fun u : Unit => wd_X0 cI cJ cZ cH N aE aEd aEf aEs e_days e_firsts e_seconds e_size) (wc := wd_X0 cI cJ cZ cH N aE aEd aEf aEs e_days e_firsts e_seconds e_size) hP hD hS hA [0, 1, 2, 3] [] [0, 1, 2, 3] rfl rfl rfl rfl (by decide) rfl (fun _ => rfl) (fun hPc hDc => va_runV (As := []) (rest := []) ⟨hx, hb, hml, hown, hts⟩ (c_X0_isFull l dC dI cI cJ cZ cH aE aEd aEf aEs s.heap.size N e_days e_firsts e_seconds e_size hf) (cwV 0 hts (gV kw481 kw463 kw464 kw3 kw465) rfl rfl rfl (by decide +kernel) ⟨Nat.le_of_ble_eq_true rfl, Nat.le_of_ble_eq_true rfl⟩) ⟨PX_blind, va_recv hK hPc (ci := 0) (q0 := 0) rfl rfl, PX_pre hPc hDc hK hN⟩ rfl rfl hl.1 rfl (lv_room (Nat.le_of_ble_eq_true rfl)) dX0_insert_1 ⟨Nat.le_of_ble_eq_true rfl, Nat.le_of_ble_eq_true rfl⟩) (fun r1_8 u H locs hf hP hD hS => ?_)
  try dsimp only at hf
  have hP : va_P (dC, dI) vwCl (wd_X0 cI cJ cZ cH N aE aEd aEf aEs e_days e_firsts e_seconds e_size) H := hP
  have hD : va_D A (wd_X0 cI cJ cZ cH N aE aEd aEf aEs e_days e_firsts e_seconds e_size) := hD
  refine lv_if_eq (tgt := 10) hx hb dX0_insert_4 (by decide) (fun c4 => ?_) (fun c4 => ?_)
  · have hf := hf.1 c4
    refine lv_aload_n hx hb dX0_insert_10 rfl (lv_at hl 0 rfl) ?_
    refine va_get (D := (dC, dI)) (ci := 0) (v := .int e_size) (C := RX0) (T := TX0) (N := 4) hx hb hts inX0 hown hK hP 0 rfl rfl 3 (by decide) (hts _ kw48) (fun _ h9 => h9) rfl dX0_insert_11 ?_
    refine lv_istore (lv' := [(4, .int e_size), (0, .ref aE), (1, .int p1), (2, .int p2), (3, .int p3)]) hx hb dX0_insert_14 hl (by decide) rfl (fun ls hl => ?_)
    refine lv_aload_n hx hb dX0_insert_16 rfl (lv_at hl 1 rfl) ?_
    refine lv_dup hx hb dX0_insert_17 rfl ?_
    refine va_get (D := (dC, dI)) (ci := 0) (v := .int e_size) (C := RX0) (T := TX0) (N := 4) hx hb hts inX0 hown hK hP 0 rfl rfl 3 (by decide) (hts _ kw48) (fun _ h9 => h9) rfl dX0_insert_18 ?_
    refine lv_iconst (v := 1) hx hb dX0_insert_21 (by decide) ?_
    refine lv_iadd hx hb dX0_insert_22 ?_
    refine lv_topi (fun x23_9 ex23_9 => ?_)
    have hf := hf x23_9 ex23_9
    refine va_put (D := (dC, dI)) (ci := 0) (v := .int x23_9) (ty := .int) (C := RX0) (T := TX0) (N := 4) hx hb hts inX0 tyX0 tyX0_ok nmX0 hown hK hP hD hS 0 rfl rfl 3 (by decide) (hts _ kw48) (fun _ h9 => h9) rfl (by decide +kernel) rfl rfl (Nat.le_of_ble_eq_true rfl) dX0_insert_23 (fun H locs hP hD hS => ?_)
    have hP : va_P (dC, dI) vwCl (wd_X0 cI cJ cZ cH N aE aEd aEf aEs e_days e_firsts e_seconds x23_9) H := hP
    have hD : va_D A (wd_X0 cI cJ cZ cH N aE aEd aEf aEs e_days e_firsts e_seconds x23_9) := hD
    obtain ⟨n9, hf⟩ := hf
    exact L26  n9 p1 p2 p3 e_size e_days e_firsts e_seconds x23_9 hf _ _ _ hP hD hS (lv_sub hl [1, 2, 3, 4, 0] rfl)
  · have hf := hf.2 c4
    refine lv_bipush (v := (-9)) hx hb dX0_insert_7 (by decide) ?_
    exact hRet _ _ _ _ (-9 : Int32) (e_days, e_firsts, e_seconds, e_size) hf hP hD hS dX0_insert_9
abbrev rm_X7_readReading : Room := { frames := 4, cells := 0, slots := 0, locals := 83 }
set_option maxHeartbeats 4000000 in
set_option maxRecDepth 100000 in
theorem c_X7_readReading (l : Launch) (dC : Nat → ClassId) (dI : Nat → Nat → Nat) (cI cJ cZ cH : ClassId) (aT : Nat) (aTl : Nat) (atH : Nat) (atE : Nat) (atEd : Nat) (atEf : Nat) (atEs : Nat) (atP : Nat) (atPh : Nat) (atPm : Nat) (atcE : Nat) (atcEd : Nat) (atcEf : Nat) (atcEs : Nat) (sz : Nat) (t_letters : Nat → Int32) (t_length : Int32) (t_at : Int32) (t_place : Int32) (t_token : Int32) (t_number : Int32) (t_rateTold : Int32) (t_wrapTold : Int32) (t_startTold : Int32) (th_rate : Int32) (th_wrap : Int32) (te_days : Nat → Int32) (te_firsts : Nat → Int32) (te_seconds : Nat → Int32) (te_size : Int32) (tp_held : Nat → Int32) (tp_most : Nat → Int32) (tp_start : Int32) (tp_heldInAll : Int32) (tce_days : Nat → Int32) (tce_firsts : Nat → Int32) (tce_seconds : Nat → Int32) (tce_size : Int32) {Q : Int32 → Int32 → Int32 → Int32 → Int32 → (Nat → Int32) → (Nat → Int32) → (Nat → Int32) → Int32 → Prop} (hf : wp_X7_readReading t_letters t_length t_at t_place t_token t_number te_days te_firsts te_seconds te_size Q) : Met l yX7_readReading (.code yX7_readReading cX7_readReading 4 (some .boolean) :: GW) rm_X7_readReading (va_Pc [.ref aT] (PX (dC, dI) cI cJ cZ cH (wd_X7 cI cJ cZ cH aT aTl atH atE atEd atEf atEs atP atPh atPm atcE atcEd atcEf atcEs t_letters t_length t_at t_place t_token t_number t_rateTold t_wrapTold t_startTold th_rate th_wrap te_days te_firsts te_seconds te_size tp_held tp_most tp_start tp_heldInAll tce_days tce_firsts tce_seconds tce_size) sz)) (va_Qi (fun (r : Int32) (u : Int32 × Int32 × Int32 × Int32 × (Nat → Int32) × (Nat → Int32) × (Nat → Int32) × Int32) => Q r u.1 u.2.1 u.2.2.1 u.2.2.2.1 u.2.2.2.2.1 u.2.2.2.2.2.1 u.2.2.2.2.2.2.1 u.2.2.2.2.2.2.2) (fun u t => BX (dC, dI) (wd_X7 cI cJ cZ cH aT aTl atH atE atEd atEf atEs atP atPh atPm atcE atcEd atcEf atcEs t_letters t_length u.1 u.2.1 u.2.2.1 u.2.2.2.1 t_rateTold t_wrapTold t_startTold th_rate th_wrap u.2.2.2.2.1 u.2.2.2.2.2.1 u.2.2.2.2.2.2.1 u.2.2.2.2.2.2.2 tp_held tp_most tp_start tp_heldInAll tce_days tce_firsts tce_seconds tce_size) (va_A (wd_X7 cI cJ cZ cH aT aTl atH atE atEd atEf atEs atP atPh atPm atcE atcEd atcEf atcEs t_letters t_length t_at t_place t_token t_number t_rateTold t_wrapTold t_startTold th_rate th_wrap te_days te_firsts te_seconds te_size tp_held tp_most tp_start tp_heldInAll tce_days tce_firsts tce_seconds tce_size) sz) t) (va_A (wd_X7 cI cJ cZ cH aT aTl atH atE atEd atEf atEs atP atPh atPm atcE atcEd atcEf atcEs t_letters t_length t_at t_place t_token t_number t_rateTold t_wrapTold t_startTold th_rate th_wrap te_days te_firsts te_seconds te_size tp_held tp_most tp_start tp_heldInAll tce_days tce_firsts tce_seconds tce_size) sz)) 0 0 (va_A (wd_X7 cI cJ cZ cH aT aTl atH atE atEd atEf atEs atP atPh atPm atcE atcEd atcEf atcEs t_letters t_length t_at t_place t_token t_number t_rateTold t_wrapTold t_startTold th_rate th_wrap te_days te_firsts te_seconds te_size tp_held tp_most tp_start tp_heldInAll tce_days tce_firsts tce_seconds tce_size) sz) := by
  refine Met_z (w1 := fun u : Int32 × Int32 × Int32 × Int32 × (Nat → Int32) × (Nat → Int32) × (Nat → Int32) × Int32 => wd_X7 cI cJ cZ cH aT aTl atH atE atEd atEf atEs atP atPh atPm atcE atcEd atcEf atcEs t_letters t_length u.1 u.2.1 u.2.2.1 u.2.2.2.1 t_rateTold t_wrapTold t_startTold th_rate th_wrap u.2.2.2.2.1 u.2.2.2.2.2.1 u.2.2.2.2.2.2.1 u.2.2.2.2.2.2.2 tp_held tp_most tp_start tp_heldInAll tce_days tce_firsts tce_seconds tce_size) (by decide) (Nat.le_of_ble_eq_true rfl) ?_
  intro p e s m below meth c A Z ls hsz hx hb hml hown hts hmn hA hP hK hN hD hS hl hRet
  have hown : s.vm.findClass "MilesKept$Teller" = some m.cls := hown
  have hl : lv_has ls 4 [(0, .ref aT)] := hl
  have J64 : ∀ (t_at : Int32) (t_place : Int32) (t_token : Int32) (t_number : Int32) (te_days : Nat → Int32) (te_firsts : Nat → Int32) (te_seconds : Nat → Int32) (te_size : Int32), wp_X7_readReading_b64 t_letters t_length Q  t_at t_place t_token t_number te_days te_firsts te_seconds te_size → ∀ (H : Heap) (locs : List Loc) (ls : Array Slot), va_P (dC, dI) vwCl (wd_X7 cI cJ cZ cH aT aTl atH atE atEd atEf atEs atP atPh atPm atcE atcEd atcEf atcEs t_letters t_length t_at t_place t_token t_number t_rateTold t_wrapTold t_startTold th_rate th_wrap te_days te_firsts te_seconds te_size tp_held tp_most tp_start tp_heldInAll tce_days tce_firsts tce_seconds tce_size) H → va_D A (wd_X7 cI cJ cZ cH aT aTl atH atE atEd atEf atEs atP atPh atPm atcE atcEd atcEf atcEs t_letters t_length t_at t_place t_token t_number t_rateTold t_wrapTold t_startTold th_rate th_wrap te_days te_firsts te_seconds te_size tp_held tp_most tp_start tp_heldInAll tce_days tce_firsts tce_seconds tce_size) → va_S A s.heap H locs → lv_has ls 4 [] → W p l e rm_X7_readReading s m ([Value.ref aT] : List Value).toArray below meth c H locs 0 0 Z (F0 m 64 ls []) := by
    intro  t_at t_place t_token t_number te_days te_firsts te_seconds te_size hf H locs ls hP hD hS hl
    unfold wp_X7_readReading_b64 at hf
    refine lv_iconst (v := 0) hx hb dX7_readReading_64 (by decide) ?_
    exact hRet _ _ _ _ (0 : Int32) (t_at, t_place, t_token, t_number, te_days, te_firsts, te_seconds, te_size) (Or.inl rfl) hf hP hD hS dX7_readReading_65
  unfold wp_X7_readReading at hf
  refine lv_aload_n hx hb dX7_readReading_0 rfl (lv_at hl 0 rfl) ?_
  refine va_get (D := (dC, dI)) (ci := 7) (v := .ref atH) (C := RX7) (T := TX7) (N := 11) hx hb hts inX7 hown hK hP 0 rfl rfl 1 (by decide) (hts _ kw122) (fun _ h9 => h9) rfl dX7_readReading_1 ?_
  refine va_get (D := (dC, dI)) (ci := 1) (v := .ref atE) (C := RX1) (T := TX1) (N := 3) hx hb hts inX1 hown hK hP 2 rfl rfl 0 (by decide) (hts _ kw64) (fun _ h9 => h9) rfl dX7_readReading_4 ?_
  refine mk_i (w2 := fun u : Unit => wd_X7 cI cJ cZ cH aT aTl atH atE atEd atEf atEs atP atPh atPm atcE atcEd atcEf atcEs t_letters t_length t_at t_place t_token t_number t_rateTold t_wrapTold t_startTold th_rate th_wrap te_days te_firsts te_seconds te_size tp_held tp_most tp_start tp_heldInAll tce_days tce_firsts tce_seconds tce_size) (wc := wd_X0 cI cJ cZ cH 10 atE atEd atEf atEs te_days te_firsts te_seconds te_size) hP hD hS hA [3, 4, 5, 6] [0, 1, 2, 7, 8, 9, 10, 11, 12, 13] [0, 1, 2, 10, 11, 12, 13, 3, 4, 5, 6, 7, 8, 9] rfl rfl rfl rfl (by decide) rfl (fun _ => rfl) (fun hPc hDc => va_runV (As := []) (rest := []) ⟨hx, hb, hml, hown, hts⟩ (c_X0_isFull l dC dI cI cJ cZ cH atE atEd atEf atEs s.heap.size 10 te_days te_firsts te_seconds te_size hf) (cwV 0 hts (gV kw462 kw463 kw464 kw3 kw465) rfl rfl rfl (by decide +kernel) ⟨Nat.le_of_ble_eq_true rfl, Nat.le_of_ble_eq_true rfl⟩) ⟨PX_blind, va_recv hK hPc (ci := 0) (q0 := 0) rfl rfl, PX_pre hPc hDc hK hN⟩ rfl rfl hl.1 rfl (lv_room (Nat.le_of_ble_eq_true rfl)) dX7_readReading_7 ⟨Nat.le_of_ble_eq_true rfl, Nat.le_of_ble_eq_true rfl⟩) (fun r7_1 u H locs hf hP hD hS => ?_)
  try dsimp only at hf
  have hP : va_P (dC, dI) vwCl (wd_X7 cI cJ cZ cH aT aTl atH atE atEd atEf atEs atP atPh atPm atcE atcEd atcEf atcEs t_letters t_length t_at t_place t_token t_number t_rateTold t_wrapTold t_startTold th_rate th_wrap te_days te_firsts te_seconds te_size tp_held tp_most tp_start tp_heldInAll tce_days tce_firsts tce_seconds tce_size) H := hP
  have hD : va_D A (wd_X7 cI cJ cZ cH aT aTl atH atE atEd atEf atEs atP atPh atPm atcE atcEd atcEf atcEs t_letters t_length t_at t_place t_token t_number t_rateTold t_wrapTold t_startTold th_rate th_wrap te_days te_firsts te_seconds te_size tp_held tp_most tp_start tp_heldInAll tce_days tce_firsts tce_seconds tce_size) := hD
  refine lv_if_eq (tgt := 15) hx hb dX7_readReading_10 (by decide) (fun c10 => ?_) (fun c10 => ?_)
  · have hf := hf.1 c10
    refine lv_aload_n hx hb dX7_readReading_15 rfl (lv_at hl 0 rfl) ?_
    refine lv_iconst (v := 0) hx hb dX7_readReading_16 (by decide) ?_
    refine lv_sipush (v := 999) hx hb dX7_readReading_17 (by decide) ?_
    refine mk_i (w2 := fun u : Int32 × Int32 × Int32 × Int32 => wd_X7 cI cJ cZ cH aT aTl atH atE atEd atEf atEs atP atPh atPm atcE atcEd atcEf atcEs t_letters t_length u.1 u.2.1 u.2.2.1 u.2.2.2 t_rateTold t_wrapTold t_startTold th_rate th_wrap te_days te_firsts te_seconds te_size tp_held tp_most tp_start tp_heldInAll tce_days tce_firsts tce_seconds tce_size) (wc := wd_X7 cI cJ cZ cH aT aTl atH atE atEd atEf atEs atP atPh atPm atcE atcEd atcEf atcEs t_letters t_length t_at t_place t_token t_number t_rateTold t_wrapTold t_startTold th_rate th_wrap te_days te_firsts te_seconds te_size tp_held tp_most tp_start tp_heldInAll tce_days tce_firsts tce_seconds tce_size) hP hD hS hA [0, 1, 2, 3, 4, 5, 6, 7, 8, 9, 10, 11, 12, 13] [] [0, 1, 2, 3, 4, 5, 6, 7, 8, 9, 10, 11, 12, 13] rfl rfl rfl rfl (by decide) rfl (fun _ => rfl) (fun hPc hDc => va_runV (As := [.int (0 : Int32), .int (999 : Int32)]) (rest := []) ⟨hx, hb, hml, hown, hts⟩ (c_X7_nextNumber l dC dI cI cJ cZ cH aT aTl atH atE atEd atEf atEs atP atPh atPm atcE atcEd atcEf atcEs H.size t_letters t_length t_at t_place t_token t_number t_rateTold t_wrapTold t_startTold th_rate th_wrap te_days te_firsts te_seconds te_size tp_held tp_most tp_start tp_heldInAll tce_days tce_firsts tce_seconds tce_size (0 : Int32) (999 : Int32) hf) (cwV 2 hts (gV kw466 kw468 kp20 kw5 kw469) rfl rfl rfl (by decide +kernel) ⟨Nat.le_of_ble_eq_true rfl, Nat.le_of_ble_eq_true rfl⟩) ⟨PX_blind, va_recv hK hPc (ci := 7) (q0 := 0) rfl rfl, PX_pre hPc hDc hK hN⟩ rfl rfl hl.1 rfl (lv_room (Nat.le_of_ble_eq_true rfl)) dX7_readReading_20 ⟨Nat.le_of_ble_eq_true rfl, Nat.le_of_ble_eq_true rfl⟩) (fun r20_6 u H locs hf hP hD hS => ?_)
    obtain ⟨t_at_20_2, t_place_20_3, t_token_20_4, t_number_20_5⟩ := u
    try dsimp only at hf
    have hP : va_P (dC, dI) vwCl (wd_X7 cI cJ cZ cH aT aTl atH atE atEd atEf atEs atP atPh atPm atcE atcEd atcEf atcEs t_letters t_length t_at_20_2 t_place_20_3 t_token_20_4 t_number_20_5 t_rateTold t_wrapTold t_startTold th_rate th_wrap te_days te_firsts te_seconds te_size tp_held tp_most tp_start tp_heldInAll tce_days tce_firsts tce_seconds tce_size) H := hP
    have hD : va_D A (wd_X7 cI cJ cZ cH aT aTl atH atE atEd atEf atEs atP atPh atPm atcE atcEd atcEf atcEs t_letters t_length t_at_20_2 t_place_20_3 t_token_20_4 t_number_20_5 t_rateTold t_wrapTold t_startTold th_rate th_wrap te_days te_firsts te_seconds te_size tp_held tp_most tp_start tp_heldInAll tce_days tce_firsts tce_seconds tce_size) := hD
    refine lv_istore_n (lv' := [(1, .int r20_6), (0, .ref aT)]) hx hb dX7_readReading_23 rfl hl (by decide) rfl (fun ls hl => ?_)
    refine lv_iload_n hx hb dX7_readReading_24 rfl (lv_at hl 0 rfl) ?_
    refine lv_if_ge (tgt := 30) hx hb dX7_readReading_25 (by decide) (fun c25 => ?_) (fun c25 => ?_)
    · have hf := hf.1 c25
      refine lv_aload_n hx hb dX7_readReading_30 rfl (lv_at hl 1 rfl) ?_
      refine lv_iconst (v := 0) hx hb dX7_readReading_31 (by decide) ?_
      refine lv_sipush (v := 9999) hx hb dX7_readReading_32 (by decide) ?_
      refine mk_i (w2 := fun u : Int32 × Int32 × Int32 × Int32 => wd_X7 cI cJ cZ cH aT aTl atH atE atEd atEf atEs atP atPh atPm atcE atcEd atcEf atcEs t_letters t_length u.1 u.2.1 u.2.2.1 u.2.2.2 t_rateTold t_wrapTold t_startTold th_rate th_wrap te_days te_firsts te_seconds te_size tp_held tp_most tp_start tp_heldInAll tce_days tce_firsts tce_seconds tce_size) (wc := wd_X7 cI cJ cZ cH aT aTl atH atE atEd atEf atEs atP atPh atPm atcE atcEd atcEf atcEs t_letters t_length t_at_20_2 t_place_20_3 t_token_20_4 t_number_20_5 t_rateTold t_wrapTold t_startTold th_rate th_wrap te_days te_firsts te_seconds te_size tp_held tp_most tp_start tp_heldInAll tce_days tce_firsts tce_seconds tce_size) hP hD hS hA [0, 1, 2, 3, 4, 5, 6, 7, 8, 9, 10, 11, 12, 13] [] [0, 1, 2, 3, 4, 5, 6, 7, 8, 9, 10, 11, 12, 13] rfl rfl rfl rfl (by decide) rfl (fun _ => rfl) (fun hPc hDc => va_runV (As := [.int (0 : Int32), .int (9999 : Int32)]) (rest := []) ⟨hx, hb, hml, hown, hts⟩ (c_X7_nextNumber l dC dI cI cJ cZ cH aT aTl atH atE atEd atEf atEs atP atPh atPm atcE atcEd atcEf atcEs H.size t_letters t_length t_at_20_2 t_place_20_3 t_token_20_4 t_number_20_5 t_rateTold t_wrapTold t_startTold th_rate th_wrap te_days te_firsts te_seconds te_size tp_held tp_most tp_start tp_heldInAll tce_days tce_firsts tce_seconds tce_size (0 : Int32) (9999 : Int32) hf) (cwV 2 hts (gV kw466 kw468 kp20 kw5 kw469) rfl rfl rfl (by decide +kernel) ⟨Nat.le_of_ble_eq_true rfl, Nat.le_of_ble_eq_true rfl⟩) ⟨PX_blind, va_recv hK hPc (ci := 7) (q0 := 0) rfl rfl, PX_pre hPc hDc hK hN⟩ rfl rfl hl.1 rfl (lv_room (Nat.le_of_ble_eq_true rfl)) dX7_readReading_35 ⟨Nat.le_of_ble_eq_true rfl, Nat.le_of_ble_eq_true rfl⟩) (fun r35_11 u H locs hf hP hD hS => ?_)
      obtain ⟨t_at_35_7, t_place_35_8, t_token_35_9, t_number_35_10⟩ := u
      try dsimp only at hf
      have hP : va_P (dC, dI) vwCl (wd_X7 cI cJ cZ cH aT aTl atH atE atEd atEf atEs atP atPh atPm atcE atcEd atcEf atcEs t_letters t_length t_at_35_7 t_place_35_8 t_token_35_9 t_number_35_10 t_rateTold t_wrapTold t_startTold th_rate th_wrap te_days te_firsts te_seconds te_size tp_held tp_most tp_start tp_heldInAll tce_days tce_firsts tce_seconds tce_size) H := hP
      have hD : va_D A (wd_X7 cI cJ cZ cH aT aTl atH atE atEd atEf atEs atP atPh atPm atcE atcEd atcEf atcEs t_letters t_length t_at_35_7 t_place_35_8 t_token_35_9 t_number_35_10 t_rateTold t_wrapTold t_startTold th_rate th_wrap te_days te_firsts te_seconds te_size tp_held tp_most tp_start tp_heldInAll tce_days tce_firsts tce_seconds tce_size) := hD
      refine lv_istore_n (lv' := [(2, .int r35_11), (1, .int r20_6), (0, .ref aT)]) hx hb dX7_readReading_38 rfl hl (by decide) rfl (fun ls hl => ?_)
      refine lv_iload_n hx hb dX7_readReading_39 rfl (lv_at hl 0 rfl) ?_
      refine lv_if_ge (tgt := 45) hx hb dX7_readReading_40 (by decide) (fun c40 => ?_) (fun c40 => ?_)
      · have hf := hf.1 c40
        refine lv_aload_n hx hb dX7_readReading_45 rfl (lv_at hl 2 rfl) ?_
        refine lv_iconst (v := 1) hx hb dX7_readReading_46 (by decide) ?_
        refine lv_bipush (v := 9) hx hb dX7_readReading_47 (by decide) ?_
        refine mk_i (w2 := fun u : Int32 × Int32 × Int32 × Int32 => wd_X7 cI cJ cZ cH aT aTl atH atE atEd atEf atEs atP atPh atPm atcE atcEd atcEf atcEs t_letters t_length u.1 u.2.1 u.2.2.1 u.2.2.2 t_rateTold t_wrapTold t_startTold th_rate th_wrap te_days te_firsts te_seconds te_size tp_held tp_most tp_start tp_heldInAll tce_days tce_firsts tce_seconds tce_size) (wc := wd_X7 cI cJ cZ cH aT aTl atH atE atEd atEf atEs atP atPh atPm atcE atcEd atcEf atcEs t_letters t_length t_at_35_7 t_place_35_8 t_token_35_9 t_number_35_10 t_rateTold t_wrapTold t_startTold th_rate th_wrap te_days te_firsts te_seconds te_size tp_held tp_most tp_start tp_heldInAll tce_days tce_firsts tce_seconds tce_size) hP hD hS hA [0, 1, 2, 3, 4, 5, 6, 7, 8, 9, 10, 11, 12, 13] [] [0, 1, 2, 3, 4, 5, 6, 7, 8, 9, 10, 11, 12, 13] rfl rfl rfl rfl (by decide) rfl (fun _ => rfl) (fun hPc hDc => va_runV (As := [.int (1 : Int32), .int (9 : Int32)]) (rest := []) ⟨hx, hb, hml, hown, hts⟩ (c_X7_nextNumber l dC dI cI cJ cZ cH aT aTl atH atE atEd atEf atEs atP atPh atPm atcE atcEd atcEf atcEs H.size t_letters t_length t_at_35_7 t_place_35_8 t_token_35_9 t_number_35_10 t_rateTold t_wrapTold t_startTold th_rate th_wrap te_days te_firsts te_seconds te_size tp_held tp_most tp_start tp_heldInAll tce_days tce_firsts tce_seconds tce_size (1 : Int32) (9 : Int32) hf) (cwV 2 hts (gV kw466 kw468 kp20 kw5 kw469) rfl rfl rfl (by decide +kernel) ⟨Nat.le_of_ble_eq_true rfl, Nat.le_of_ble_eq_true rfl⟩) ⟨PX_blind, va_recv hK hPc (ci := 7) (q0 := 0) rfl rfl, PX_pre hPc hDc hK hN⟩ rfl rfl hl.1 rfl (lv_room (Nat.le_of_ble_eq_true rfl)) dX7_readReading_49 ⟨Nat.le_of_ble_eq_true rfl, Nat.le_of_ble_eq_true rfl⟩) (fun r49_16 u H locs hf hP hD hS => ?_)
        obtain ⟨t_at_49_12, t_place_49_13, t_token_49_14, t_number_49_15⟩ := u
        try dsimp only at hf
        have hP : va_P (dC, dI) vwCl (wd_X7 cI cJ cZ cH aT aTl atH atE atEd atEf atEs atP atPh atPm atcE atcEd atcEf atcEs t_letters t_length t_at_49_12 t_place_49_13 t_token_49_14 t_number_49_15 t_rateTold t_wrapTold t_startTold th_rate th_wrap te_days te_firsts te_seconds te_size tp_held tp_most tp_start tp_heldInAll tce_days tce_firsts tce_seconds tce_size) H := hP
        have hD : va_D A (wd_X7 cI cJ cZ cH aT aTl atH atE atEd atEf atEs atP atPh atPm atcE atcEd atcEf atcEs t_letters t_length t_at_49_12 t_place_49_13 t_token_49_14 t_number_49_15 t_rateTold t_wrapTold t_startTold th_rate th_wrap te_days te_firsts te_seconds te_size tp_held tp_most tp_start tp_heldInAll tce_days tce_firsts tce_seconds tce_size) := hD
        refine lv_istore_n (lv' := [(3, .int r49_16), (2, .int r35_11), (1, .int r20_6), (0, .ref aT)]) hx hb dX7_readReading_52 rfl hl (by decide) rfl (fun ls hl => ?_)
        refine lv_iload_n hx hb dX7_readReading_53 rfl (lv_at hl 0 rfl) ?_
        refine lv_if_lt (tgt := 64) hx hb dX7_readReading_54 (by decide) (fun c54 => ?_) (fun c54 => ?_)
        · have hf := hf.1 c54
          exact J64  t_at_49_12 t_place_49_13 t_token_49_14 t_number_49_15 te_days te_firsts te_seconds te_size hf _ _ _ hP hD hS (lv_sub hl [] rfl)
        · have hf := hf.2 c54
          refine lv_aload_n hx hb dX7_readReading_57 rfl (lv_at hl 3 rfl) ?_
          refine mk_i (w2 := fun u : Int32 × Int32 × Int32 × Int32 => wd_X7 cI cJ cZ cH aT aTl atH atE atEd atEf atEs atP atPh atPm atcE atcEd atcEf atcEs t_letters t_length u.1 u.2.1 u.2.2.1 u.2.2.2 t_rateTold t_wrapTold t_startTold th_rate th_wrap te_days te_firsts te_seconds te_size tp_held tp_most tp_start tp_heldInAll tce_days tce_firsts tce_seconds tce_size) (wc := wd_X7 cI cJ cZ cH aT aTl atH atE atEd atEf atEs atP atPh atPm atcE atcEd atcEf atcEs t_letters t_length t_at_49_12 t_place_49_13 t_token_49_14 t_number_49_15 t_rateTold t_wrapTold t_startTold th_rate th_wrap te_days te_firsts te_seconds te_size tp_held tp_most tp_start tp_heldInAll tce_days tce_firsts tce_seconds tce_size) hP hD hS hA [0, 1, 2, 3, 4, 5, 6, 7, 8, 9, 10, 11, 12, 13] [] [0, 1, 2, 3, 4, 5, 6, 7, 8, 9, 10, 11, 12, 13] rfl rfl rfl rfl (by decide) rfl (fun _ => rfl) (fun hPc hDc => va_runV (As := []) (rest := []) ⟨hx, hb, hml, hown, hts⟩ (c_X7_nextEnds l dC dI cI cJ cZ cH aT aTl atH atE atEd atEf atEs atP atPh atPm atcE atcEd atcEf atcEs H.size t_letters t_length t_at_49_12 t_place_49_13 t_token_49_14 t_number_49_15 t_rateTold t_wrapTold t_startTold th_rate th_wrap te_days te_firsts te_seconds te_size tp_held tp_most tp_start tp_heldInAll tce_days tce_firsts tce_seconds tce_size hf) (cwV 0 hts (gV kw473 kw475 kp21 kw5 kw476) rfl rfl rfl (by decide +kernel) ⟨Nat.le_of_ble_eq_true rfl, Nat.le_of_ble_eq_true rfl⟩) ⟨PX_blind, va_recv hK hPc (ci := 7) (q0 := 0) rfl rfl, PX_pre hPc hDc hK hN⟩ rfl rfl hl.1 rfl (lv_room (Nat.le_of_ble_eq_true rfl)) dX7_readReading_58 ⟨Nat.le_of_ble_eq_true rfl, Nat.le_of_ble_eq_true rfl⟩) (fun r58_21 u H locs hf hP hD hS => ?_)
          obtain ⟨t_at_58_17, t_place_58_18, t_token_58_19, t_number_58_20⟩ := u
          try dsimp only at hf
          have hP : va_P (dC, dI) vwCl (wd_X7 cI cJ cZ cH aT aTl atH atE atEd atEf atEs atP atPh atPm atcE atcEd atcEf atcEs t_letters t_length t_at_58_17 t_place_58_18 t_token_58_19 t_number_58_20 t_rateTold t_wrapTold t_startTold th_rate th_wrap te_days te_firsts te_seconds te_size tp_held tp_most tp_start tp_heldInAll tce_days tce_firsts tce_seconds tce_size) H := hP
          have hD : va_D A (wd_X7 cI cJ cZ cH aT aTl atH atE atEd atEf atEs atP atPh atPm atcE atcEd atcEf atcEs t_letters t_length t_at_58_17 t_place_58_18 t_token_58_19 t_number_58_20 t_rateTold t_wrapTold t_startTold th_rate th_wrap te_days te_firsts te_seconds te_size tp_held tp_most tp_start tp_heldInAll tce_days tce_firsts tce_seconds tce_size) := hD
          refine lv_if_ne (tgt := 66) hx hb dX7_readReading_61 (by decide) (fun c61 => ?_) (fun c61 => ?_)
          · have hf := hf.1 c61
            refine lv_aload_n hx hb dX7_readReading_66 rfl (lv_at hl 3 rfl) ?_
            refine va_get (D := (dC, dI)) (ci := 7) (v := .ref atH) (C := RX7) (T := TX7) (N := 11) hx hb hts inX7 hown hK hP 0 rfl rfl 1 (by decide) (hts _ kw122) (fun _ h9 => h9) rfl dX7_readReading_67 ?_
            refine va_get (D := (dC, dI)) (ci := 1) (v := .ref atE) (C := RX1) (T := TX1) (N := 3) hx hb hts inX1 hown hK hP 2 rfl rfl 0 (by decide) (hts _ kw64) (fun _ h9 => h9) rfl dX7_readReading_70 ?_
            refine lv_iload_n hx hb dX7_readReading_73 rfl (lv_at hl 2 rfl) ?_
            refine lv_iload_n hx hb dX7_readReading_74 rfl (lv_at hl 1 rfl) ?_
            refine lv_iload_n hx hb dX7_readReading_75 rfl (lv_at hl 0 rfl) ?_
            refine mk_i (w2 := fun u : (Nat → Int32) × (Nat → Int32) × (Nat → Int32) × Int32 => wd_X7 cI cJ cZ cH aT aTl atH atE atEd atEf atEs atP atPh atPm atcE atcEd atcEf atcEs t_letters t_length t_at_58_17 t_place_58_18 t_token_58_19 t_number_58_20 t_rateTold t_wrapTold t_startTold th_rate th_wrap u.1 u.2.1 u.2.2.1 u.2.2.2 tp_held tp_most tp_start tp_heldInAll tce_days tce_firsts tce_seconds tce_size) (wc := wd_X0 cI cJ cZ cH 10 atE atEd atEf atEs te_days te_firsts te_seconds te_size) hP hD hS hA [3, 4, 5, 6] [0, 1, 2, 7, 8, 9, 10, 11, 12, 13] [0, 1, 2, 10, 11, 12, 13, 3, 4, 5, 6, 7, 8, 9] rfl rfl rfl rfl (by decide) rfl (fun _ => rfl) (fun hPc hDc => va_runV (As := [.int r20_6, .int r35_11, .int r49_16]) (rest := []) ⟨hx, hb, hml, hown, hts⟩ (c_X0_insert l dC dI cI cJ cZ cH atE atEd atEf atEs H.size 10 te_days te_firsts te_seconds te_size r20_6 r35_11 r49_16 hf) (cwV 3 hts (gV kw477 kw478 kw479 kw3 kw480) rfl rfl rfl (by decide +kernel) ⟨Nat.le_of_ble_eq_true rfl, Nat.le_of_ble_eq_true rfl⟩) ⟨PX_blind, va_recv hK hPc (ci := 0) (q0 := 0) rfl rfl, PX_pre hPc hDc hK hN⟩ rfl rfl hl.1 rfl (lv_room (Nat.le_of_ble_eq_true rfl)) dX7_readReading_76 ⟨Nat.le_of_ble_eq_true rfl, Nat.le_of_ble_eq_true rfl⟩) (fun r76_26 u H locs hf hP hD hS => ?_)
            obtain ⟨e_days_76_22, e_firsts_76_23, e_seconds_76_24, e_size_76_25⟩ := u
            try dsimp only at hf
            have hP : va_P (dC, dI) vwCl (wd_X7 cI cJ cZ cH aT aTl atH atE atEd atEf atEs atP atPh atPm atcE atcEd atcEf atcEs t_letters t_length t_at_58_17 t_place_58_18 t_token_58_19 t_number_58_20 t_rateTold t_wrapTold t_startTold th_rate th_wrap e_days_76_22 e_firsts_76_23 e_seconds_76_24 e_size_76_25 tp_held tp_most tp_start tp_heldInAll tce_days tce_firsts tce_seconds tce_size) H := hP
            have hD : va_D A (wd_X7 cI cJ cZ cH aT aTl atH atE atEd atEf atEs atP atPh atPm atcE atcEd atcEf atcEs t_letters t_length t_at_58_17 t_place_58_18 t_token_58_19 t_number_58_20 t_rateTold t_wrapTold t_startTold th_rate th_wrap e_days_76_22 e_firsts_76_23 e_seconds_76_24 e_size_76_25 tp_held tp_most tp_start tp_heldInAll tce_days tce_firsts tce_seconds tce_size) := hD
            refine lv_pop hx hb dX7_readReading_79 rfl ?_
            refine lv_iconst (v := 1) hx hb dX7_readReading_80 (by decide) ?_
            exact hRet _ _ _ _ (1 : Int32) (t_at_58_17, t_place_58_18, t_token_58_19, t_number_58_20, e_days_76_22, e_firsts_76_23, e_seconds_76_24, e_size_76_25) (Or.inr rfl) hf hP hD hS dX7_readReading_81
          · have hf := hf.2 c61
            exact J64  t_at_58_17 t_place_58_18 t_token_58_19 t_number_58_20 te_days te_firsts te_seconds te_size hf _ _ _ hP hD hS (lv_sub hl [] rfl)
      · have hf := hf.2 c40
        refine lv_iconst (v := 0) hx hb dX7_readReading_43 (by decide) ?_
        exact hRet _ _ _ _ (0 : Int32) (t_at_35_7, t_place_35_8, t_token_35_9, t_number_35_10, te_days, te_firsts, te_seconds, te_size) (Or.inl rfl) hf hP hD hS dX7_readReading_44
    · have hf := hf.2 c25
      refine lv_iconst (v := 0) hx hb dX7_readReading_28 (by decide) ?_
      exact hRet _ _ _ _ (0 : Int32) (t_at_20_2, t_place_20_3, t_token_20_4, t_number_20_5, te_days, te_firsts, te_seconds, te_size) (Or.inl rfl) hf hP hD hS dX7_readReading_29
  · have hf := hf.2 c10
    refine lv_iconst (v := 0) hx hb dX7_readReading_13 (by decide) ?_
    exact hRet _ _ _ _ (0 : Int32) (t_at, t_place, t_token, t_number, te_days, te_firsts, te_seconds, te_size) (Or.inl rfl) hf hP hD hS dX7_readReading_14
abbrev rm_X7_readRate : Room := { frames := 4, cells := 0, slots := 0, locals := 83 }
set_option maxHeartbeats 4000000 in
set_option maxRecDepth 100000 in
theorem c_X7_readRate (l : Launch) (dC : Nat → ClassId) (dI : Nat → Nat → Nat) (cI cJ cZ cH : ClassId) (aT : Nat) (aTl : Nat) (atH : Nat) (atE : Nat) (atEd : Nat) (atEf : Nat) (atEs : Nat) (atP : Nat) (atPh : Nat) (atPm : Nat) (atcE : Nat) (atcEd : Nat) (atcEf : Nat) (atcEs : Nat) (sz : Nat) (t_letters : Nat → Int32) (t_length : Int32) (t_at : Int32) (t_place : Int32) (t_token : Int32) (t_number : Int32) (t_rateTold : Int32) (t_wrapTold : Int32) (t_startTold : Int32) (th_rate : Int32) (th_wrap : Int32) (te_days : Nat → Int32) (te_firsts : Nat → Int32) (te_seconds : Nat → Int32) (te_size : Int32) (tp_held : Nat → Int32) (tp_most : Nat → Int32) (tp_start : Int32) (tp_heldInAll : Int32) (tce_days : Nat → Int32) (tce_firsts : Nat → Int32) (tce_seconds : Nat → Int32) (tce_size : Int32) {Q : Int32 → Int32 → Int32 → Int32 → Int32 → Int32 → Int32 → Prop} (hf : wp_X7_readRate t_letters t_length t_at t_place t_token t_number t_rateTold th_rate Q) : Met l yX7_readRate (.code yX7_readRate cX7_readRate 2 (some .boolean) :: GW) rm_X7_readRate (va_Pc [.ref aT] (PX (dC, dI) cI cJ cZ cH (wd_X7 cI cJ cZ cH aT aTl atH atE atEd atEf atEs atP atPh atPm atcE atcEd atcEf atcEs t_letters t_length t_at t_place t_token t_number t_rateTold t_wrapTold t_startTold th_rate th_wrap te_days te_firsts te_seconds te_size tp_held tp_most tp_start tp_heldInAll tce_days tce_firsts tce_seconds tce_size) sz)) (va_Qi (fun (r : Int32) (u : Int32 × Int32 × Int32 × Int32 × Int32 × Int32) => Q r u.1 u.2.1 u.2.2.1 u.2.2.2.1 u.2.2.2.2.1 u.2.2.2.2.2) (fun u t => BX (dC, dI) (wd_X7 cI cJ cZ cH aT aTl atH atE atEd atEf atEs atP atPh atPm atcE atcEd atcEf atcEs t_letters t_length u.1 u.2.1 u.2.2.1 u.2.2.2.1 u.2.2.2.2.1 t_wrapTold t_startTold u.2.2.2.2.2 th_wrap te_days te_firsts te_seconds te_size tp_held tp_most tp_start tp_heldInAll tce_days tce_firsts tce_seconds tce_size) (va_A (wd_X7 cI cJ cZ cH aT aTl atH atE atEd atEf atEs atP atPh atPm atcE atcEd atcEf atcEs t_letters t_length t_at t_place t_token t_number t_rateTold t_wrapTold t_startTold th_rate th_wrap te_days te_firsts te_seconds te_size tp_held tp_most tp_start tp_heldInAll tce_days tce_firsts tce_seconds tce_size) sz) t) (va_A (wd_X7 cI cJ cZ cH aT aTl atH atE atEd atEf atEs atP atPh atPm atcE atcEd atcEf atcEs t_letters t_length t_at t_place t_token t_number t_rateTold t_wrapTold t_startTold th_rate th_wrap te_days te_firsts te_seconds te_size tp_held tp_most tp_start tp_heldInAll tce_days tce_firsts tce_seconds tce_size) sz)) 0 0 (va_A (wd_X7 cI cJ cZ cH aT aTl atH atE atEd atEf atEs atP atPh atPm atcE atcEd atcEf atcEs t_letters t_length t_at t_place t_token t_number t_rateTold t_wrapTold t_startTold th_rate th_wrap te_days te_firsts te_seconds te_size tp_held tp_most tp_start tp_heldInAll tce_days tce_firsts tce_seconds tce_size) sz) := by
  refine Met_z (w1 := fun u : Int32 × Int32 × Int32 × Int32 × Int32 × Int32 => wd_X7 cI cJ cZ cH aT aTl atH atE atEd atEf atEs atP atPh atPm atcE atcEd atcEf atcEs t_letters t_length u.1 u.2.1 u.2.2.1 u.2.2.2.1 u.2.2.2.2.1 t_wrapTold t_startTold u.2.2.2.2.2 th_wrap te_days te_firsts te_seconds te_size tp_held tp_most tp_start tp_heldInAll tce_days tce_firsts tce_seconds tce_size) (by decide) (Nat.le_of_ble_eq_true rfl) ?_
  intro p e s m below meth c A Z ls hsz hx hb hml hown hts hmn hA hP hK hN hD hS hl hRet
  have hown : s.vm.findClass "MilesKept$Teller" = some m.cls := hown
  have hl : lv_has ls 2 [(0, .ref aT)] := hl
  have J28 : ∀ (t_at : Int32) (t_place : Int32) (t_token : Int32) (t_number : Int32) (t_rateTold : Int32) (th_rate : Int32), wp_X7_readRate_b28 t_letters t_length Q  t_at t_place t_token t_number t_rateTold th_rate → ∀ (H : Heap) (locs : List Loc) (ls : Array Slot), va_P (dC, dI) vwCl (wd_X7 cI cJ cZ cH aT aTl atH atE atEd atEf atEs atP atPh atPm atcE atcEd atcEf atcEs t_letters t_length t_at t_place t_token t_number t_rateTold t_wrapTold t_startTold th_rate th_wrap te_days te_firsts te_seconds te_size tp_held tp_most tp_start tp_heldInAll tce_days tce_firsts tce_seconds tce_size) H → va_D A (wd_X7 cI cJ cZ cH aT aTl atH atE atEd atEf atEs atP atPh atPm atcE atcEd atcEf atcEs t_letters t_length t_at t_place t_token t_number t_rateTold t_wrapTold t_startTold th_rate th_wrap te_days te_firsts te_seconds te_size tp_held tp_most tp_start tp_heldInAll tce_days tce_firsts tce_seconds tce_size) → va_S A s.heap H locs → lv_has ls 2 [] → W p l e rm_X7_readRate s m ([Value.ref aT] : List Value).toArray below meth c H locs 0 0 Z (F0 m 28 ls []) := by
    intro  t_at t_place t_token t_number t_rateTold th_rate hf H locs ls hP hD hS hl
    unfold wp_X7_readRate_b28 at hf
    refine lv_iconst (v := 0) hx hb dX7_readRate_28 (by decide) ?_
    exact hRet _ _ _ _ (0 : Int32) (t_at, t_place, t_token, t_number, t_rateTold, th_rate) (Or.inl rfl) hf hP hD hS dX7_readRate_29
  unfold wp_X7_readRate at hf
  refine lv_aload_n hx hb dX7_readRate_0 rfl (lv_at hl 0 rfl) ?_
  refine va_get (D := (dC, dI)) (ci := 7) (v := .int t_rateTold) (C := RX7) (T := TX7) (N := 11) hx hb hts inX7 hown hK hP 0 rfl rfl 8 (by decide) (hts _ kw132) (fun _ h9 => h9) rfl dX7_readRate_1 ?_
  refine lv_if_eq (tgt := 9) hx hb dX7_readRate_4 (by decide) (fun c4 => ?_) (fun c4 => ?_)
  · have hf := hf.1 c4
    refine lv_aload_n hx hb dX7_readRate_9 rfl (lv_at hl 0 rfl) ?_
    refine lv_iconst (v := 1) hx hb dX7_readRate_10 (by decide) ?_
    refine lv_bipush (v := 99) hx hb dX7_readRate_11 (by decide) ?_
    refine mk_i (w2 := fun u : Int32 × Int32 × Int32 × Int32 => wd_X7 cI cJ cZ cH aT aTl atH atE atEd atEf atEs atP atPh atPm atcE atcEd atcEf atcEs t_letters t_length u.1 u.2.1 u.2.2.1 u.2.2.2 t_rateTold t_wrapTold t_startTold th_rate th_wrap te_days te_firsts te_seconds te_size tp_held tp_most tp_start tp_heldInAll tce_days tce_firsts tce_seconds tce_size) (wc := wd_X7 cI cJ cZ cH aT aTl atH atE atEd atEf atEs atP atPh atPm atcE atcEd atcEf atcEs t_letters t_length t_at t_place t_token t_number t_rateTold t_wrapTold t_startTold th_rate th_wrap te_days te_firsts te_seconds te_size tp_held tp_most tp_start tp_heldInAll tce_days tce_firsts tce_seconds tce_size) hP hD hS hA [0, 1, 2, 3, 4, 5, 6, 7, 8, 9, 10, 11, 12, 13] [] [0, 1, 2, 3, 4, 5, 6, 7, 8, 9, 10, 11, 12, 13] rfl rfl rfl rfl (by decide) rfl (fun _ => rfl) (fun hPc hDc => va_runV (As := [.int (1 : Int32), .int (99 : Int32)]) (rest := []) ⟨hx, hb, hml, hown, hts⟩ (c_X7_nextNumber l dC dI cI cJ cZ cH aT aTl atH atE atEd atEf atEs atP atPh atPm atcE atcEd atcEf atcEs s.heap.size t_letters t_length t_at t_place t_token t_number t_rateTold t_wrapTold t_startTold th_rate th_wrap te_days te_firsts te_seconds te_size tp_held tp_most tp_start tp_heldInAll tce_days tce_firsts tce_seconds tce_size (1 : Int32) (99 : Int32) hf) (cwV 2 hts (gV kw466 kw468 kp20 kw5 kw469) rfl rfl rfl (by decide +kernel) ⟨Nat.le_of_ble_eq_true rfl, Nat.le_of_ble_eq_true rfl⟩) ⟨PX_blind, va_recv hK hPc (ci := 7) (q0 := 0) rfl rfl, PX_pre hPc hDc hK hN⟩ rfl rfl hl.1 rfl (lv_room (Nat.le_of_ble_eq_true rfl)) dX7_readRate_13 ⟨Nat.le_of_ble_eq_true rfl, Nat.le_of_ble_eq_true rfl⟩) (fun r13_5 u H locs hf hP hD hS => ?_)
    obtain ⟨t_at_13_1, t_place_13_2, t_token_13_3, t_number_13_4⟩ := u
    try dsimp only at hf
    have hP : va_P (dC, dI) vwCl (wd_X7 cI cJ cZ cH aT aTl atH atE atEd atEf atEs atP atPh atPm atcE atcEd atcEf atcEs t_letters t_length t_at_13_1 t_place_13_2 t_token_13_3 t_number_13_4 t_rateTold t_wrapTold t_startTold th_rate th_wrap te_days te_firsts te_seconds te_size tp_held tp_most tp_start tp_heldInAll tce_days tce_firsts tce_seconds tce_size) H := hP
    have hD : va_D A (wd_X7 cI cJ cZ cH aT aTl atH atE atEd atEf atEs atP atPh atPm atcE atcEd atcEf atcEs t_letters t_length t_at_13_1 t_place_13_2 t_token_13_3 t_number_13_4 t_rateTold t_wrapTold t_startTold th_rate th_wrap te_days te_firsts te_seconds te_size tp_held tp_most tp_start tp_heldInAll tce_days tce_firsts tce_seconds tce_size) := hD
    refine lv_istore_n (lv' := [(1, .int r13_5), (0, .ref aT)]) hx hb dX7_readRate_16 rfl hl (by decide) rfl (fun ls hl => ?_)
    refine lv_iload_n hx hb dX7_readRate_17 rfl (lv_at hl 0 rfl) ?_
    refine lv_if_lt (tgt := 28) hx hb dX7_readRate_18 (by decide) (fun c18 => ?_) (fun c18 => ?_)
    · have hf := hf.1 c18
      exact J28  t_at_13_1 t_place_13_2 t_token_13_3 t_number_13_4 t_rateTold th_rate hf _ _ _ hP hD hS (lv_sub hl [] rfl)
    · have hf := hf.2 c18
      refine lv_aload_n hx hb dX7_readRate_21 rfl (lv_at hl 1 rfl) ?_
      refine mk_i (w2 := fun u : Int32 × Int32 × Int32 × Int32 => wd_X7 cI cJ cZ cH aT aTl atH atE atEd atEf atEs atP atPh atPm atcE atcEd atcEf atcEs t_letters t_length u.1 u.2.1 u.2.2.1 u.2.2.2 t_rateTold t_wrapTold t_startTold th_rate th_wrap te_days te_firsts te_seconds te_size tp_held tp_most tp_start tp_heldInAll tce_days tce_firsts tce_seconds tce_size) (wc := wd_X7 cI cJ cZ cH aT aTl atH atE atEd atEf atEs atP atPh atPm atcE atcEd atcEf atcEs t_letters t_length t_at_13_1 t_place_13_2 t_token_13_3 t_number_13_4 t_rateTold t_wrapTold t_startTold th_rate th_wrap te_days te_firsts te_seconds te_size tp_held tp_most tp_start tp_heldInAll tce_days tce_firsts tce_seconds tce_size) hP hD hS hA [0, 1, 2, 3, 4, 5, 6, 7, 8, 9, 10, 11, 12, 13] [] [0, 1, 2, 3, 4, 5, 6, 7, 8, 9, 10, 11, 12, 13] rfl rfl rfl rfl (by decide) rfl (fun _ => rfl) (fun hPc hDc => va_runV (As := []) (rest := []) ⟨hx, hb, hml, hown, hts⟩ (c_X7_nextEnds l dC dI cI cJ cZ cH aT aTl atH atE atEd atEf atEs atP atPh atPm atcE atcEd atcEf atcEs H.size t_letters t_length t_at_13_1 t_place_13_2 t_token_13_3 t_number_13_4 t_rateTold t_wrapTold t_startTold th_rate th_wrap te_days te_firsts te_seconds te_size tp_held tp_most tp_start tp_heldInAll tce_days tce_firsts tce_seconds tce_size hf) (cwV 0 hts (gV kw473 kw475 kp21 kw5 kw476) rfl rfl rfl (by decide +kernel) ⟨Nat.le_of_ble_eq_true rfl, Nat.le_of_ble_eq_true rfl⟩) ⟨PX_blind, va_recv hK hPc (ci := 7) (q0 := 0) rfl rfl, PX_pre hPc hDc hK hN⟩ rfl rfl hl.1 rfl (lv_room (Nat.le_of_ble_eq_true rfl)) dX7_readRate_22 ⟨Nat.le_of_ble_eq_true rfl, Nat.le_of_ble_eq_true rfl⟩) (fun r22_10 u H locs hf hP hD hS => ?_)
      obtain ⟨t_at_22_6, t_place_22_7, t_token_22_8, t_number_22_9⟩ := u
      try dsimp only at hf
      have hP : va_P (dC, dI) vwCl (wd_X7 cI cJ cZ cH aT aTl atH atE atEd atEf atEs atP atPh atPm atcE atcEd atcEf atcEs t_letters t_length t_at_22_6 t_place_22_7 t_token_22_8 t_number_22_9 t_rateTold t_wrapTold t_startTold th_rate th_wrap te_days te_firsts te_seconds te_size tp_held tp_most tp_start tp_heldInAll tce_days tce_firsts tce_seconds tce_size) H := hP
      have hD : va_D A (wd_X7 cI cJ cZ cH aT aTl atH atE atEd atEf atEs atP atPh atPm atcE atcEd atcEf atcEs t_letters t_length t_at_22_6 t_place_22_7 t_token_22_8 t_number_22_9 t_rateTold t_wrapTold t_startTold th_rate th_wrap te_days te_firsts te_seconds te_size tp_held tp_most tp_start tp_heldInAll tce_days tce_firsts tce_seconds tce_size) := hD
      refine lv_if_ne (tgt := 30) hx hb dX7_readRate_25 (by decide) (fun c25 => ?_) (fun c25 => ?_)
      · have hf := hf.1 c25
        refine lv_aload_n hx hb dX7_readRate_30 rfl (lv_at hl 1 rfl) ?_
        refine lv_iconst (v := 1) hx hb dX7_readRate_31 (by decide) ?_
        refine va_put (D := (dC, dI)) (ci := 7) (v := .int (1 : Int32)) (ty := .boolean) (C := RX7) (T := TX7) (N := 11) hx hb hts inX7 tyX7 tyX7_ok nmX7 hown hK hP hD hS 0 rfl rfl 8 (by decide) (hts _ kw132) (fun _ h9 => h9) rfl (by decide +kernel) rfl rfl (Nat.le_of_ble_eq_true rfl) dX7_readRate_32 (fun H locs hP hD hS => ?_)
        have hP : va_P (dC, dI) vwCl (wd_X7 cI cJ cZ cH aT aTl atH atE atEd atEf atEs atP atPh atPm atcE atcEd atcEf atcEs t_letters t_length t_at_22_6 t_place_22_7 t_token_22_8 t_number_22_9 (1 : Int32) t_wrapTold t_startTold th_rate th_wrap te_days te_firsts te_seconds te_size tp_held tp_most tp_start tp_heldInAll tce_days tce_firsts tce_seconds tce_size) H := hP
        have hD : va_D A (wd_X7 cI cJ cZ cH aT aTl atH atE atEd atEf atEs atP atPh atPm atcE atcEd atcEf atcEs t_letters t_length t_at_22_6 t_place_22_7 t_token_22_8 t_number_22_9 (1 : Int32) t_wrapTold t_startTold th_rate th_wrap te_days te_firsts te_seconds te_size tp_held tp_most tp_start tp_heldInAll tce_days tce_firsts tce_seconds tce_size) := hD
        refine lv_aload_n hx hb dX7_readRate_35 rfl (lv_at hl 1 rfl) ?_
        refine va_get (D := (dC, dI)) (ci := 7) (v := .ref atH) (C := RX7) (T := TX7) (N := 11) hx hb hts inX7 hown hK hP 0 rfl rfl 1 (by decide) (hts _ kw122) (fun _ h9 => h9) rfl dX7_readRate_36 ?_
        refine lv_iload_n hx hb dX7_readRate_39 rfl (lv_at hl 0 rfl) ?_
        refine va_put (D := (dC, dI)) (ci := 1) (v := .int r13_5) (ty := .int) (C := RX1) (T := TX1) (N := 3) hx hb hts inX1 tyX1 tyX1_ok nmX1 hown hK hP hD hS 2 rfl rfl 1 (by decide) (hts _ kw66) (fun _ h9 => h9) rfl (by decide +kernel) rfl rfl (Nat.le_of_ble_eq_true rfl) dX7_readRate_40 (fun H locs hP hD hS => ?_)
        have hP : va_P (dC, dI) vwCl (wd_X7 cI cJ cZ cH aT aTl atH atE atEd atEf atEs atP atPh atPm atcE atcEd atcEf atcEs t_letters t_length t_at_22_6 t_place_22_7 t_token_22_8 t_number_22_9 (1 : Int32) t_wrapTold t_startTold r13_5 th_wrap te_days te_firsts te_seconds te_size tp_held tp_most tp_start tp_heldInAll tce_days tce_firsts tce_seconds tce_size) H := hP
        have hD : va_D A (wd_X7 cI cJ cZ cH aT aTl atH atE atEd atEf atEs atP atPh atPm atcE atcEd atcEf atcEs t_letters t_length t_at_22_6 t_place_22_7 t_token_22_8 t_number_22_9 (1 : Int32) t_wrapTold t_startTold r13_5 th_wrap te_days te_firsts te_seconds te_size tp_held tp_most tp_start tp_heldInAll tce_days tce_firsts tce_seconds tce_size) := hD
        refine lv_iconst (v := 1) hx hb dX7_readRate_43 (by decide) ?_
        exact hRet _ _ _ _ (1 : Int32) (t_at_22_6, t_place_22_7, t_token_22_8, t_number_22_9, (1 : Int32), r13_5) (Or.inr rfl) hf hP hD hS dX7_readRate_44
      · have hf := hf.2 c25
        exact J28  t_at_22_6 t_place_22_7 t_token_22_8 t_number_22_9 t_rateTold th_rate hf _ _ _ hP hD hS (lv_sub hl [] rfl)
  · have hf := hf.2 c4
    refine lv_iconst (v := 0) hx hb dX7_readRate_7 (by decide) ?_
    exact hRet _ _ _ _ (0 : Int32) (t_at, t_place, t_token, t_number, t_rateTold, th_rate) (Or.inl rfl) hf hP hD hS dX7_readRate_8
abbrev rm_X8_isWrap : Room := { frames := 1, cells := 0, slots := 0, locals := 22 }
set_option maxHeartbeats 4000000 in
set_option maxRecDepth 100000 in
theorem c_X8_isWrap (l : Launch) (dC : Nat → ClassId) (dI : Nat → Nat → Nat) (cI cJ cZ cH : ClassId) (sz : Nat) (p0 : Int32) {Q : Int32 → Prop} (hf : wp_X8_isWrap p0 Q) : Met l yX8_isWrap (.code yX8_isWrap cX8_isWrap 1 (some .boolean) :: GW) rm_X8_isWrap (va_Pc [.int p0] (PX (dC, dI) cI cJ cZ cH (wd_E cI cJ cZ cH ) sz)) (va_Qi (fun (r : Int32) (_u : Unit) => Q r ) (fun u t => BX (dC, dI) (wd_E cI cJ cZ cH ) (va_A (wd_E cI cJ cZ cH ) sz) t) (va_A (wd_E cI cJ cZ cH ) sz)) 0 0 (va_A (wd_E cI cJ cZ cH ) sz) := by
  refine Met_z (w1 := fun u : Unit => wd_E cI cJ cZ cH ) (by decide) (Nat.le_of_ble_eq_true rfl) ?_
  intro p e s m below meth c A Z ls hsz hx hb hml hown hts hmn hA hP hK hN hD hS hl hRet
  have hown : s.vm.findClass "MilesKept" = some m.cls := hown
  have hl : lv_has ls 1 [(0, .int p0)] := hl
  have J21 : ∀ (k0 : Int32), wp_X8_isWrap_b21 Q  k0 → ∀ (H : Heap) (locs : List Loc) (ls : Array Slot), va_P (dC, dI) vwCl (wd_E cI cJ cZ cH ) H → va_D A (wd_E cI cJ cZ cH ) → va_S A s.heap H locs → lv_has ls 1 [] → W p l e rm_X8_isWrap s m ([Value.int p0] : List Value).toArray below meth c H locs 0 0 Z (F0 m 21 ls [.int k0]) := by
    intro  k0 hf H locs ls hP hD hS hl
    unfold wp_X8_isWrap_b21 at hf
    obtain ⟨hz, hf⟩ := hf
    exact hRet _ _ _ _ k0 () hz hf hP hD hS dX8_isWrap_21
  have J16 : wp_X8_isWrap_b16 Q   → ∀ (H : Heap) (locs : List Loc) (ls : Array Slot), va_P (dC, dI) vwCl (wd_E cI cJ cZ cH ) H → va_D A (wd_E cI cJ cZ cH ) → va_S A s.heap H locs → lv_has ls 1 [] → W p l e rm_X8_isWrap s m ([Value.int p0] : List Value).toArray below meth c H locs 0 0 Z (F0 m 16 ls []) := by
    intro   hf H locs ls hP hD hS hl
    unfold wp_X8_isWrap_b16 at hf
    refine lv_iconst (v := 1) hx hb dX8_isWrap_16 (by decide) ?_
    refine lv_goto (tgt := 21) hx hb dX8_isWrap_17 (by decide) ?_
    exact J21  (1 : Int32) hf _ _ _ hP hD hS (lv_sub hl [] rfl)
  unfold wp_X8_isWrap at hf
  refine lv_iload_n hx hb dX8_isWrap_0 rfl (lv_at hl 0 rfl) ?_
  refine lv_if_eq (tgt := 16) hx hb dX8_isWrap_1 (by decide) (fun c1 => ?_) (fun c1 => ?_)
  · have hf := hf.1 c1
    exact J16   hf _ _ _ hP hD hS (lv_sub hl [] rfl)
  · have hf := hf.2 c1
    refine lv_iload_n hx hb dX8_isWrap_4 rfl (lv_at hl 0 rfl) ?_
    refine lv_bipush (v := 100) hx hb dX8_isWrap_5 (by decide) ?_
    refine lv_sipush (v := 9999) hx hb dX8_isWrap_7 (by decide) ?_
    refine mk_i (w2 := fun u : Unit => wd_E cI cJ cZ cH ) (wc := wd_E cI cJ cZ cH ) hP hD hS hA [] [] [] rfl rfl rfl rfl (by decide) rfl (fun _ => rfl) (fun hPc hDc => va_runS (As := [.int p0, .int (100 : Int32), .int (9999 : Int32)]) (rest := []) ⟨hx, hb, hml, hown, hts⟩ (c_X8_isWithin l dC dI cI cJ cZ cH s.heap.size p0 (100 : Int32) (9999 : Int32) hf) (va_cwS 3 hts (gS kw501 kw471 kw1 kw472) rfl rfl rfl (by decide +kernel) ⟨Nat.le_of_ble_eq_true rfl, Nat.le_of_ble_eq_true rfl⟩) ⟨PX_blind, PX_pre hPc hDc hK hN⟩ rfl rfl hl.1 rfl (lv_room (Nat.le_of_ble_eq_true rfl)) dX8_isWrap_10 ⟨Nat.le_of_ble_eq_true rfl, Nat.le_of_ble_eq_true rfl⟩) (fun r10_1 u H locs hf hP hD hS => ?_)
    try dsimp only at hf
    have hP : va_P (dC, dI) vwCl (wd_E cI cJ cZ cH ) H := hP
    have hD : va_D A (wd_E cI cJ cZ cH ) := hD
    refine lv_if_eq (tgt := 20) hx hb dX8_isWrap_13 (by decide) (fun c13 => ?_) (fun c13 => ?_)
    · have hf := hf.1 c13
      refine lv_iconst (v := 0) hx hb dX8_isWrap_20 (by decide) ?_
      exact J21  (0 : Int32) hf _ _ _ hP hD hS (lv_sub hl [] rfl)
    · have hf := hf.2 c13
      exact J16   hf _ _ _ hP hD hS (lv_sub hl [] rfl)
abbrev rm_X7_readWrap : Room := { frames := 4, cells := 0, slots := 0, locals := 83 }
set_option maxHeartbeats 4000000 in
set_option maxRecDepth 100000 in
theorem c_X7_readWrap (l : Launch) (dC : Nat → ClassId) (dI : Nat → Nat → Nat) (cI cJ cZ cH : ClassId) (aT : Nat) (aTl : Nat) (atH : Nat) (atE : Nat) (atEd : Nat) (atEf : Nat) (atEs : Nat) (atP : Nat) (atPh : Nat) (atPm : Nat) (atcE : Nat) (atcEd : Nat) (atcEf : Nat) (atcEs : Nat) (sz : Nat) (t_letters : Nat → Int32) (t_length : Int32) (t_at : Int32) (t_place : Int32) (t_token : Int32) (t_number : Int32) (t_rateTold : Int32) (t_wrapTold : Int32) (t_startTold : Int32) (th_rate : Int32) (th_wrap : Int32) (te_days : Nat → Int32) (te_firsts : Nat → Int32) (te_seconds : Nat → Int32) (te_size : Int32) (tp_held : Nat → Int32) (tp_most : Nat → Int32) (tp_start : Int32) (tp_heldInAll : Int32) (tce_days : Nat → Int32) (tce_firsts : Nat → Int32) (tce_seconds : Nat → Int32) (tce_size : Int32) {Q : Int32 → Int32 → Int32 → Int32 → Int32 → Int32 → Int32 → Prop} (hf : wp_X7_readWrap t_letters t_length t_at t_place t_token t_number t_wrapTold th_wrap Q) : Met l yX7_readWrap (.code yX7_readWrap cX7_readWrap 2 (some .boolean) :: GW) rm_X7_readWrap (va_Pc [.ref aT] (PX (dC, dI) cI cJ cZ cH (wd_X7 cI cJ cZ cH aT aTl atH atE atEd atEf atEs atP atPh atPm atcE atcEd atcEf atcEs t_letters t_length t_at t_place t_token t_number t_rateTold t_wrapTold t_startTold th_rate th_wrap te_days te_firsts te_seconds te_size tp_held tp_most tp_start tp_heldInAll tce_days tce_firsts tce_seconds tce_size) sz)) (va_Qi (fun (r : Int32) (u : Int32 × Int32 × Int32 × Int32 × Int32 × Int32) => Q r u.1 u.2.1 u.2.2.1 u.2.2.2.1 u.2.2.2.2.1 u.2.2.2.2.2) (fun u t => BX (dC, dI) (wd_X7 cI cJ cZ cH aT aTl atH atE atEd atEf atEs atP atPh atPm atcE atcEd atcEf atcEs t_letters t_length u.1 u.2.1 u.2.2.1 u.2.2.2.1 t_rateTold u.2.2.2.2.1 t_startTold th_rate u.2.2.2.2.2 te_days te_firsts te_seconds te_size tp_held tp_most tp_start tp_heldInAll tce_days tce_firsts tce_seconds tce_size) (va_A (wd_X7 cI cJ cZ cH aT aTl atH atE atEd atEf atEs atP atPh atPm atcE atcEd atcEf atcEs t_letters t_length t_at t_place t_token t_number t_rateTold t_wrapTold t_startTold th_rate th_wrap te_days te_firsts te_seconds te_size tp_held tp_most tp_start tp_heldInAll tce_days tce_firsts tce_seconds tce_size) sz) t) (va_A (wd_X7 cI cJ cZ cH aT aTl atH atE atEd atEf atEs atP atPh atPm atcE atcEd atcEf atcEs t_letters t_length t_at t_place t_token t_number t_rateTold t_wrapTold t_startTold th_rate th_wrap te_days te_firsts te_seconds te_size tp_held tp_most tp_start tp_heldInAll tce_days tce_firsts tce_seconds tce_size) sz)) 0 0 (va_A (wd_X7 cI cJ cZ cH aT aTl atH atE atEd atEf atEs atP atPh atPm atcE atcEd atcEf atcEs t_letters t_length t_at t_place t_token t_number t_rateTold t_wrapTold t_startTold th_rate th_wrap te_days te_firsts te_seconds te_size tp_held tp_most tp_start tp_heldInAll tce_days tce_firsts tce_seconds tce_size) sz) := by
  refine Met_z (w1 := fun u : Int32 × Int32 × Int32 × Int32 × Int32 × Int32 => wd_X7 cI cJ cZ cH aT aTl atH atE atEd atEf atEs atP atPh atPm atcE atcEd atcEf atcEs t_letters t_length u.1 u.2.1 u.2.2.1 u.2.2.2.1 t_rateTold u.2.2.2.2.1 t_startTold th_rate u.2.2.2.2.2 te_days te_firsts te_seconds te_size tp_held tp_most tp_start tp_heldInAll tce_days tce_firsts tce_seconds tce_size) (by decide) (Nat.le_of_ble_eq_true rfl) ?_
  intro p e s m below meth c A Z ls hsz hx hb hml hown hts hmn hA hP hK hN hD hS hl hRet
  have hown : s.vm.findClass "MilesKept$Teller" = some m.cls := hown
  have hl : lv_has ls 2 [(0, .ref aT)] := hl
  have J32 : ∀ (t_at : Int32) (t_place : Int32) (t_token : Int32) (t_number : Int32) (t_wrapTold : Int32) (th_wrap : Int32), wp_X7_readWrap_b32 t_letters t_length Q  t_at t_place t_token t_number t_wrapTold th_wrap → ∀ (H : Heap) (locs : List Loc) (ls : Array Slot), va_P (dC, dI) vwCl (wd_X7 cI cJ cZ cH aT aTl atH atE atEd atEf atEs atP atPh atPm atcE atcEd atcEf atcEs t_letters t_length t_at t_place t_token t_number t_rateTold t_wrapTold t_startTold th_rate th_wrap te_days te_firsts te_seconds te_size tp_held tp_most tp_start tp_heldInAll tce_days tce_firsts tce_seconds tce_size) H → va_D A (wd_X7 cI cJ cZ cH aT aTl atH atE atEd atEf atEs atP atPh atPm atcE atcEd atcEf atcEs t_letters t_length t_at t_place t_token t_number t_rateTold t_wrapTold t_startTold th_rate th_wrap te_days te_firsts te_seconds te_size tp_held tp_most tp_start tp_heldInAll tce_days tce_firsts tce_seconds tce_size) → va_S A s.heap H locs → lv_has ls 2 [] → W p l e rm_X7_readWrap s m ([Value.ref aT] : List Value).toArray below meth c H locs 0 0 Z (F0 m 32 ls []) := by
    intro  t_at t_place t_token t_number t_wrapTold th_wrap hf H locs ls hP hD hS hl
    unfold wp_X7_readWrap_b32 at hf
    refine lv_iconst (v := 0) hx hb dX7_readWrap_32 (by decide) ?_
    exact hRet _ _ _ _ (0 : Int32) (t_at, t_place, t_token, t_number, t_wrapTold, th_wrap) (Or.inl rfl) hf hP hD hS dX7_readWrap_33
  unfold wp_X7_readWrap at hf
  refine lv_aload_n hx hb dX7_readWrap_0 rfl (lv_at hl 0 rfl) ?_
  refine va_get (D := (dC, dI)) (ci := 7) (v := .int t_wrapTold) (C := RX7) (T := TX7) (N := 11) hx hb hts inX7 hown hK hP 0 rfl rfl 9 (by decide) (hts _ kw133) (fun _ h9 => h9) rfl dX7_readWrap_1 ?_
  refine lv_if_eq (tgt := 9) hx hb dX7_readWrap_4 (by decide) (fun c4 => ?_) (fun c4 => ?_)
  · have hf := hf.1 c4
    refine lv_aload_n hx hb dX7_readWrap_9 rfl (lv_at hl 0 rfl) ?_
    refine lv_iconst (v := 0) hx hb dX7_readWrap_10 (by decide) ?_
    refine lv_sipush (v := 9999) hx hb dX7_readWrap_11 (by decide) ?_
    refine mk_i (w2 := fun u : Int32 × Int32 × Int32 × Int32 => wd_X7 cI cJ cZ cH aT aTl atH atE atEd atEf atEs atP atPh atPm atcE atcEd atcEf atcEs t_letters t_length u.1 u.2.1 u.2.2.1 u.2.2.2 t_rateTold t_wrapTold t_startTold th_rate th_wrap te_days te_firsts te_seconds te_size tp_held tp_most tp_start tp_heldInAll tce_days tce_firsts tce_seconds tce_size) (wc := wd_X7 cI cJ cZ cH aT aTl atH atE atEd atEf atEs atP atPh atPm atcE atcEd atcEf atcEs t_letters t_length t_at t_place t_token t_number t_rateTold t_wrapTold t_startTold th_rate th_wrap te_days te_firsts te_seconds te_size tp_held tp_most tp_start tp_heldInAll tce_days tce_firsts tce_seconds tce_size) hP hD hS hA [0, 1, 2, 3, 4, 5, 6, 7, 8, 9, 10, 11, 12, 13] [] [0, 1, 2, 3, 4, 5, 6, 7, 8, 9, 10, 11, 12, 13] rfl rfl rfl rfl (by decide) rfl (fun _ => rfl) (fun hPc hDc => va_runV (As := [.int (0 : Int32), .int (9999 : Int32)]) (rest := []) ⟨hx, hb, hml, hown, hts⟩ (c_X7_nextNumber l dC dI cI cJ cZ cH aT aTl atH atE atEd atEf atEs atP atPh atPm atcE atcEd atcEf atcEs s.heap.size t_letters t_length t_at t_place t_token t_number t_rateTold t_wrapTold t_startTold th_rate th_wrap te_days te_firsts te_seconds te_size tp_held tp_most tp_start tp_heldInAll tce_days tce_firsts tce_seconds tce_size (0 : Int32) (9999 : Int32) hf) (cwV 2 hts (gV kw466 kw468 kp20 kw5 kw469) rfl rfl rfl (by decide +kernel) ⟨Nat.le_of_ble_eq_true rfl, Nat.le_of_ble_eq_true rfl⟩) ⟨PX_blind, va_recv hK hPc (ci := 7) (q0 := 0) rfl rfl, PX_pre hPc hDc hK hN⟩ rfl rfl hl.1 rfl (lv_room (Nat.le_of_ble_eq_true rfl)) dX7_readWrap_14 ⟨Nat.le_of_ble_eq_true rfl, Nat.le_of_ble_eq_true rfl⟩) (fun r14_5 u H locs hf hP hD hS => ?_)
    obtain ⟨t_at_14_1, t_place_14_2, t_token_14_3, t_number_14_4⟩ := u
    try dsimp only at hf
    have hP : va_P (dC, dI) vwCl (wd_X7 cI cJ cZ cH aT aTl atH atE atEd atEf atEs atP atPh atPm atcE atcEd atcEf atcEs t_letters t_length t_at_14_1 t_place_14_2 t_token_14_3 t_number_14_4 t_rateTold t_wrapTold t_startTold th_rate th_wrap te_days te_firsts te_seconds te_size tp_held tp_most tp_start tp_heldInAll tce_days tce_firsts tce_seconds tce_size) H := hP
    have hD : va_D A (wd_X7 cI cJ cZ cH aT aTl atH atE atEd atEf atEs atP atPh atPm atcE atcEd atcEf atcEs t_letters t_length t_at_14_1 t_place_14_2 t_token_14_3 t_number_14_4 t_rateTold t_wrapTold t_startTold th_rate th_wrap te_days te_firsts te_seconds te_size tp_held tp_most tp_start tp_heldInAll tce_days tce_firsts tce_seconds tce_size) := hD
    refine lv_istore_n (lv' := [(1, .int r14_5), (0, .ref aT)]) hx hb dX7_readWrap_17 rfl hl (by decide) rfl (fun ls hl => ?_)
    refine lv_iload_n hx hb dX7_readWrap_18 rfl (lv_at hl 0 rfl) ?_
    refine mk_i (w2 := fun u : Unit => wd_X7 cI cJ cZ cH aT aTl atH atE atEd atEf atEs atP atPh atPm atcE atcEd atcEf atcEs t_letters t_length t_at_14_1 t_place_14_2 t_token_14_3 t_number_14_4 t_rateTold t_wrapTold t_startTold th_rate th_wrap te_days te_firsts te_seconds te_size tp_held tp_most tp_start tp_heldInAll tce_days tce_firsts tce_seconds tce_size) (wc := wd_E cI cJ cZ cH ) hP hD hS hA [] [0, 1, 2, 3, 4, 5, 6, 7, 8, 9, 10, 11, 12, 13] [0, 1, 2, 3, 4, 5, 6, 7, 8, 9, 10, 11, 12, 13] rfl rfl rfl rfl (by decide) rfl (fun _ => rfl) (fun hPc hDc => va_runSN (As := [.int r14_5]) (rest := []) ⟨hx, hb, hml, hown, hts⟩ (c_X8_isWrap l dC dI cI cJ cZ cH H.size r14_5 hf) ⟨va_cnB 1 hts (gI kw500) rfl rfl rfl hN.2.2.2.2.2.2.2.1 (hts _ kw1) (by decide +kernel) ⟨Nat.le_of_ble_eq_true rfl, Nat.le_of_ble_eq_true rfl⟩, hts _ kw499, trivial⟩ ⟨PX_blind, PX_pre hPc hDc hK hN⟩ rfl rfl hl.1 rfl (lv_room (Nat.le_of_ble_eq_true rfl)) dX7_readWrap_19 ⟨Nat.le_of_ble_eq_true rfl, Nat.le_of_ble_eq_true rfl⟩) (fun r19_6 u H locs hf hP hD hS => ?_)
    try dsimp only at hf
    have hP : va_P (dC, dI) vwCl (wd_X7 cI cJ cZ cH aT aTl atH atE atEd atEf atEs atP atPh atPm atcE atcEd atcEf atcEs t_letters t_length t_at_14_1 t_place_14_2 t_token_14_3 t_number_14_4 t_rateTold t_wrapTold t_startTold th_rate th_wrap te_days te_firsts te_seconds te_size tp_held tp_most tp_start tp_heldInAll tce_days tce_firsts tce_seconds tce_size) H := hP
    have hD : va_D A (wd_X7 cI cJ cZ cH aT aTl atH atE atEd atEf atEs atP atPh atPm atcE atcEd atcEf atcEs t_letters t_length t_at_14_1 t_place_14_2 t_token_14_3 t_number_14_4 t_rateTold t_wrapTold t_startTold th_rate th_wrap te_days te_firsts te_seconds te_size tp_held tp_most tp_start tp_heldInAll tce_days tce_firsts tce_seconds tce_size) := hD
    refine lv_if_eq (tgt := 32) hx hb dX7_readWrap_22 (by decide) (fun c22 => ?_) (fun c22 => ?_)
    · have hf := hf.1 c22
      exact J32  t_at_14_1 t_place_14_2 t_token_14_3 t_number_14_4 t_wrapTold th_wrap hf _ _ _ hP hD hS (lv_sub hl [] rfl)
    · have hf := hf.2 c22
      refine lv_aload_n hx hb dX7_readWrap_25 rfl (lv_at hl 1 rfl) ?_
      refine mk_i (w2 := fun u : Int32 × Int32 × Int32 × Int32 => wd_X7 cI cJ cZ cH aT aTl atH atE atEd atEf atEs atP atPh atPm atcE atcEd atcEf atcEs t_letters t_length u.1 u.2.1 u.2.2.1 u.2.2.2 t_rateTold t_wrapTold t_startTold th_rate th_wrap te_days te_firsts te_seconds te_size tp_held tp_most tp_start tp_heldInAll tce_days tce_firsts tce_seconds tce_size) (wc := wd_X7 cI cJ cZ cH aT aTl atH atE atEd atEf atEs atP atPh atPm atcE atcEd atcEf atcEs t_letters t_length t_at_14_1 t_place_14_2 t_token_14_3 t_number_14_4 t_rateTold t_wrapTold t_startTold th_rate th_wrap te_days te_firsts te_seconds te_size tp_held tp_most tp_start tp_heldInAll tce_days tce_firsts tce_seconds tce_size) hP hD hS hA [0, 1, 2, 3, 4, 5, 6, 7, 8, 9, 10, 11, 12, 13] [] [0, 1, 2, 3, 4, 5, 6, 7, 8, 9, 10, 11, 12, 13] rfl rfl rfl rfl (by decide) rfl (fun _ => rfl) (fun hPc hDc => va_runV (As := []) (rest := []) ⟨hx, hb, hml, hown, hts⟩ (c_X7_nextEnds l dC dI cI cJ cZ cH aT aTl atH atE atEd atEf atEs atP atPh atPm atcE atcEd atcEf atcEs H.size t_letters t_length t_at_14_1 t_place_14_2 t_token_14_3 t_number_14_4 t_rateTold t_wrapTold t_startTold th_rate th_wrap te_days te_firsts te_seconds te_size tp_held tp_most tp_start tp_heldInAll tce_days tce_firsts tce_seconds tce_size hf) (cwV 0 hts (gV kw473 kw475 kp21 kw5 kw476) rfl rfl rfl (by decide +kernel) ⟨Nat.le_of_ble_eq_true rfl, Nat.le_of_ble_eq_true rfl⟩) ⟨PX_blind, va_recv hK hPc (ci := 7) (q0 := 0) rfl rfl, PX_pre hPc hDc hK hN⟩ rfl rfl hl.1 rfl (lv_room (Nat.le_of_ble_eq_true rfl)) dX7_readWrap_26 ⟨Nat.le_of_ble_eq_true rfl, Nat.le_of_ble_eq_true rfl⟩) (fun r26_11 u H locs hf hP hD hS => ?_)
      obtain ⟨t_at_26_7, t_place_26_8, t_token_26_9, t_number_26_10⟩ := u
      try dsimp only at hf
      have hP : va_P (dC, dI) vwCl (wd_X7 cI cJ cZ cH aT aTl atH atE atEd atEf atEs atP atPh atPm atcE atcEd atcEf atcEs t_letters t_length t_at_26_7 t_place_26_8 t_token_26_9 t_number_26_10 t_rateTold t_wrapTold t_startTold th_rate th_wrap te_days te_firsts te_seconds te_size tp_held tp_most tp_start tp_heldInAll tce_days tce_firsts tce_seconds tce_size) H := hP
      have hD : va_D A (wd_X7 cI cJ cZ cH aT aTl atH atE atEd atEf atEs atP atPh atPm atcE atcEd atcEf atcEs t_letters t_length t_at_26_7 t_place_26_8 t_token_26_9 t_number_26_10 t_rateTold t_wrapTold t_startTold th_rate th_wrap te_days te_firsts te_seconds te_size tp_held tp_most tp_start tp_heldInAll tce_days tce_firsts tce_seconds tce_size) := hD
      refine lv_if_ne (tgt := 34) hx hb dX7_readWrap_29 (by decide) (fun c29 => ?_) (fun c29 => ?_)
      · have hf := hf.1 c29
        refine lv_aload_n hx hb dX7_readWrap_34 rfl (lv_at hl 1 rfl) ?_
        refine lv_iconst (v := 1) hx hb dX7_readWrap_35 (by decide) ?_
        refine va_put (D := (dC, dI)) (ci := 7) (v := .int (1 : Int32)) (ty := .boolean) (C := RX7) (T := TX7) (N := 11) hx hb hts inX7 tyX7 tyX7_ok nmX7 hown hK hP hD hS 0 rfl rfl 9 (by decide) (hts _ kw133) (fun _ h9 => h9) rfl (by decide +kernel) rfl rfl (Nat.le_of_ble_eq_true rfl) dX7_readWrap_36 (fun H locs hP hD hS => ?_)
        have hP : va_P (dC, dI) vwCl (wd_X7 cI cJ cZ cH aT aTl atH atE atEd atEf atEs atP atPh atPm atcE atcEd atcEf atcEs t_letters t_length t_at_26_7 t_place_26_8 t_token_26_9 t_number_26_10 t_rateTold (1 : Int32) t_startTold th_rate th_wrap te_days te_firsts te_seconds te_size tp_held tp_most tp_start tp_heldInAll tce_days tce_firsts tce_seconds tce_size) H := hP
        have hD : va_D A (wd_X7 cI cJ cZ cH aT aTl atH atE atEd atEf atEs atP atPh atPm atcE atcEd atcEf atcEs t_letters t_length t_at_26_7 t_place_26_8 t_token_26_9 t_number_26_10 t_rateTold (1 : Int32) t_startTold th_rate th_wrap te_days te_firsts te_seconds te_size tp_held tp_most tp_start tp_heldInAll tce_days tce_firsts tce_seconds tce_size) := hD
        refine lv_aload_n hx hb dX7_readWrap_39 rfl (lv_at hl 1 rfl) ?_
        refine va_get (D := (dC, dI)) (ci := 7) (v := .ref atH) (C := RX7) (T := TX7) (N := 11) hx hb hts inX7 hown hK hP 0 rfl rfl 1 (by decide) (hts _ kw122) (fun _ h9 => h9) rfl dX7_readWrap_40 ?_
        refine lv_iload_n hx hb dX7_readWrap_43 rfl (lv_at hl 0 rfl) ?_
        refine va_put (D := (dC, dI)) (ci := 1) (v := .int r14_5) (ty := .int) (C := RX1) (T := TX1) (N := 3) hx hb hts inX1 tyX1 tyX1_ok nmX1 hown hK hP hD hS 2 rfl rfl 2 (by decide) (hts _ kw71) (fun _ h9 => h9) rfl (by decide +kernel) rfl rfl (Nat.le_of_ble_eq_true rfl) dX7_readWrap_44 (fun H locs hP hD hS => ?_)
        have hP : va_P (dC, dI) vwCl (wd_X7 cI cJ cZ cH aT aTl atH atE atEd atEf atEs atP atPh atPm atcE atcEd atcEf atcEs t_letters t_length t_at_26_7 t_place_26_8 t_token_26_9 t_number_26_10 t_rateTold (1 : Int32) t_startTold th_rate r14_5 te_days te_firsts te_seconds te_size tp_held tp_most tp_start tp_heldInAll tce_days tce_firsts tce_seconds tce_size) H := hP
        have hD : va_D A (wd_X7 cI cJ cZ cH aT aTl atH atE atEd atEf atEs atP atPh atPm atcE atcEd atcEf atcEs t_letters t_length t_at_26_7 t_place_26_8 t_token_26_9 t_number_26_10 t_rateTold (1 : Int32) t_startTold th_rate r14_5 te_days te_firsts te_seconds te_size tp_held tp_most tp_start tp_heldInAll tce_days tce_firsts tce_seconds tce_size) := hD
        refine lv_iconst (v := 1) hx hb dX7_readWrap_47 (by decide) ?_
        exact hRet _ _ _ _ (1 : Int32) (t_at_26_7, t_place_26_8, t_token_26_9, t_number_26_10, (1 : Int32), r14_5) (Or.inr rfl) hf hP hD hS dX7_readWrap_48
      · have hf := hf.2 c29
        exact J32  t_at_26_7 t_place_26_8 t_token_26_9 t_number_26_10 t_wrapTold th_wrap hf _ _ _ hP hD hS (lv_sub hl [] rfl)
  · have hf := hf.2 c4
    refine lv_iconst (v := 0) hx hb dX7_readWrap_7 (by decide) ?_
    exact hRet _ _ _ _ (0 : Int32) (t_at, t_place, t_token, t_number, t_wrapTold, th_wrap) (Or.inl rfl) hf hP hD hS dX7_readWrap_8
abbrev rm_X7_nextPlate : Room := { frames := 3, cells := 0, slots := 0, locals := 61 }
set_option maxHeartbeats 4000000 in
set_option maxRecDepth 100000 in
theorem c_X7_nextPlate (l : Launch) (dC : Nat → ClassId) (dI : Nat → Nat → Nat) (cI cJ cZ cH : ClassId) (aT : Nat) (aTl : Nat) (atH : Nat) (atE : Nat) (atEd : Nat) (atEf : Nat) (atEs : Nat) (atP : Nat) (atPh : Nat) (atPm : Nat) (atcE : Nat) (atcEd : Nat) (atcEf : Nat) (atcEs : Nat) (sz : Nat) (t_letters : Nat → Int32) (t_length : Int32) (t_at : Int32) (t_place : Int32) (t_token : Int32) (t_number : Int32) (t_rateTold : Int32) (t_wrapTold : Int32) (t_startTold : Int32) (th_rate : Int32) (th_wrap : Int32) (te_days : Nat → Int32) (te_firsts : Nat → Int32) (te_seconds : Nat → Int32) (te_size : Int32) (tp_held : Nat → Int32) (tp_most : Nat → Int32) (tp_start : Int32) (tp_heldInAll : Int32) (tce_days : Nat → Int32) (tce_firsts : Nat → Int32) (tce_seconds : Nat → Int32) (tce_size : Int32) {Q : Int32 → Int32 → Int32 → Int32 → Int32 → Prop} (hf : wp_X7_nextPlate t_letters t_length t_at t_place t_token t_number Q) : Met l yX7_nextPlate (.code yX7_nextPlate cX7_nextPlate 1 (some .int) :: GW) rm_X7_nextPlate (va_Pc [.ref aT] (PX (dC, dI) cI cJ cZ cH (wd_X7 cI cJ cZ cH aT aTl atH atE atEd atEf atEs atP atPh atPm atcE atcEd atcEf atcEs t_letters t_length t_at t_place t_token t_number t_rateTold t_wrapTold t_startTold th_rate th_wrap te_days te_firsts te_seconds te_size tp_held tp_most tp_start tp_heldInAll tce_days tce_firsts tce_seconds tce_size) sz)) (va_Qi (fun (r : Int32) (u : Int32 × Int32 × Int32 × Int32) => Q r u.1 u.2.1 u.2.2.1 u.2.2.2) (fun u t => BX (dC, dI) (wd_X7 cI cJ cZ cH aT aTl atH atE atEd atEf atEs atP atPh atPm atcE atcEd atcEf atcEs t_letters t_length u.1 u.2.1 u.2.2.1 u.2.2.2 t_rateTold t_wrapTold t_startTold th_rate th_wrap te_days te_firsts te_seconds te_size tp_held tp_most tp_start tp_heldInAll tce_days tce_firsts tce_seconds tce_size) (va_A (wd_X7 cI cJ cZ cH aT aTl atH atE atEd atEf atEs atP atPh atPm atcE atcEd atcEf atcEs t_letters t_length t_at t_place t_token t_number t_rateTold t_wrapTold t_startTold th_rate th_wrap te_days te_firsts te_seconds te_size tp_held tp_most tp_start tp_heldInAll tce_days tce_firsts tce_seconds tce_size) sz) t) (va_A (wd_X7 cI cJ cZ cH aT aTl atH atE atEd atEf atEs atP atPh atPm atcE atcEd atcEf atcEs t_letters t_length t_at t_place t_token t_number t_rateTold t_wrapTold t_startTold th_rate th_wrap te_days te_firsts te_seconds te_size tp_held tp_most tp_start tp_heldInAll tce_days tce_firsts tce_seconds tce_size) sz)) 0 0 (va_A (wd_X7 cI cJ cZ cH aT aTl atH atE atEd atEf atEs atP atPh atPm atcE atcEd atcEf atcEs t_letters t_length t_at t_place t_token t_number t_rateTold t_wrapTold t_startTold th_rate th_wrap te_days te_firsts te_seconds te_size tp_held tp_most tp_start tp_heldInAll tce_days tce_firsts tce_seconds tce_size) sz) := by
  refine Met_i (w1 := fun u : Int32 × Int32 × Int32 × Int32 => wd_X7 cI cJ cZ cH aT aTl atH atE atEd atEf atEs atP atPh atPm atcE atcEd atcEf atcEs t_letters t_length u.1 u.2.1 u.2.2.1 u.2.2.2 t_rateTold t_wrapTold t_startTold th_rate th_wrap te_days te_firsts te_seconds te_size tp_held tp_most tp_start tp_heldInAll tce_days tce_firsts tce_seconds tce_size) (by decide) (Nat.le_of_ble_eq_true rfl) ?_
  intro p e s m below meth c A Z ls hsz hx hb hml hown hts hmn hA hP hK hN hD hS hl hRet
  have hown : s.vm.findClass "MilesKept$Teller" = some m.cls := hown
  have hl : lv_has ls 1 [(0, .ref aT)] := hl
  have J30 : ∀ (k0 : Int32) (t_at : Int32) (t_place : Int32) (t_token : Int32) (t_number : Int32), wp_X7_nextPlate_b30 t_letters t_length Q  k0 t_at t_place t_token t_number → ∀ (H : Heap) (locs : List Loc) (ls : Array Slot), va_P (dC, dI) vwCl (wd_X7 cI cJ cZ cH aT aTl atH atE atEd atEf atEs atP atPh atPm atcE atcEd atcEf atcEs t_letters t_length t_at t_place t_token t_number t_rateTold t_wrapTold t_startTold th_rate th_wrap te_days te_firsts te_seconds te_size tp_held tp_most tp_start tp_heldInAll tce_days tce_firsts tce_seconds tce_size) H → va_D A (wd_X7 cI cJ cZ cH aT aTl atH atE atEd atEf atEs atP atPh atPm atcE atcEd atcEf atcEs t_letters t_length t_at t_place t_token t_number t_rateTold t_wrapTold t_startTold th_rate th_wrap te_days te_firsts te_seconds te_size tp_held tp_most tp_start tp_heldInAll tce_days tce_firsts tce_seconds tce_size) → va_S A s.heap H locs → lv_has ls 1 [] → W p l e rm_X7_nextPlate s m ([Value.ref aT] : List Value).toArray below meth c H locs 0 0 Z (F0 m 30 ls [.int k0]) := by
    intro  k0 t_at t_place t_token t_number hf H locs ls hP hD hS hl
    unfold wp_X7_nextPlate_b30 at hf
    exact hRet _ _ _ _ k0 (t_at, t_place, t_token, t_number) hf hP hD hS dX7_nextPlate_30
  unfold wp_X7_nextPlate at hf
  refine lv_aload_n hx hb dX7_nextPlate_0 rfl (lv_at hl 0 rfl) ?_
  refine mk_v (w2 := fun u : Int32 × Int32 × Int32 × Int32 => wd_X7 cI cJ cZ cH aT aTl atH atE atEd atEf atEs atP atPh atPm atcE atcEd atcEf atcEs t_letters t_length u.1 u.2.1 u.2.2.1 u.2.2.2 t_rateTold t_wrapTold t_startTold th_rate th_wrap te_days te_firsts te_seconds te_size tp_held tp_most tp_start tp_heldInAll tce_days tce_firsts tce_seconds tce_size) (wc := wd_X7 cI cJ cZ cH aT aTl atH atE atEd atEf atEs atP atPh atPm atcE atcEd atcEf atcEs t_letters t_length t_at t_place t_token t_number t_rateTold t_wrapTold t_startTold th_rate th_wrap te_days te_firsts te_seconds te_size tp_held tp_most tp_start tp_heldInAll tce_days tce_firsts tce_seconds tce_size) hP hD hS hA [0, 1, 2, 3, 4, 5, 6, 7, 8, 9, 10, 11, 12, 13] [] [0, 1, 2, 3, 4, 5, 6, 7, 8, 9, 10, 11, 12, 13] rfl rfl rfl rfl (by decide) rfl (fun _ => rfl) (fun hPc hDc => va_runV (As := []) (rest := []) ⟨hx, hb, hml, hown, hts⟩ (c_X7_nextToken l dC dI cI cJ cZ cH aT aTl atH atE atEd atEf atEs atP atPh atPm atcE atcEd atcEf atcEs s.heap.size t_letters t_length t_at t_place t_token t_number t_rateTold t_wrapTold t_startTold th_rate th_wrap te_days te_firsts te_seconds te_size tp_held tp_most tp_start tp_heldInAll tce_days tce_firsts tce_seconds tce_size hf) (cwV 0 hts (gV kw444 kw446 kp17 kw5 kw447) rfl rfl rfl (by decide +kernel) ⟨Nat.le_of_ble_eq_true rfl, Nat.le_of_ble_eq_true rfl⟩) ⟨PX_blind, va_recv hK hPc (ci := 7) (q0 := 0) rfl rfl, PX_pre hPc hDc hK hN⟩ rfl rfl hl.1 rfl (lv_room (Nat.le_of_ble_eq_true rfl)) dX7_nextPlate_1 ⟨Nat.le_of_ble_eq_true rfl, Nat.le_of_ble_eq_true rfl⟩) (fun u H locs hf hP hD hS => ?_)
  obtain ⟨t_at_1_1, t_place_1_2, t_token_1_3, t_number_1_4⟩ := u
  try dsimp only at hf
  have hP : va_P (dC, dI) vwCl (wd_X7 cI cJ cZ cH aT aTl atH atE atEd atEf atEs atP atPh atPm atcE atcEd atcEf atcEs t_letters t_length t_at_1_1 t_place_1_2 t_token_1_3 t_number_1_4 t_rateTold t_wrapTold t_startTold th_rate th_wrap te_days te_firsts te_seconds te_size tp_held tp_most tp_start tp_heldInAll tce_days tce_firsts tce_seconds tce_size) H := hP
  have hD : va_D A (wd_X7 cI cJ cZ cH aT aTl atH atE atEd atEf atEs atP atPh atPm atcE atcEd atcEf atcEs t_letters t_length t_at_1_1 t_place_1_2 t_token_1_3 t_number_1_4 t_rateTold t_wrapTold t_startTold th_rate th_wrap te_days te_firsts te_seconds te_size tp_held tp_most tp_start tp_heldInAll tce_days tce_firsts tce_seconds tce_size) := hD
  refine lv_aload_n hx hb dX7_nextPlate_4 rfl (lv_at hl 0 rfl) ?_
  refine va_get (D := (dC, dI)) (ci := 7) (v := .int t_token_1_3) (C := RX7) (T := TX7) (N := 11) hx hb hts inX7 hown hK hP 0 rfl rfl 6 (by decide) (hts _ kw130) (fun _ h9 => h9) rfl dX7_nextPlate_5 ?_
  refine lv_bipush (v := 97) hx hb dX7_nextPlate_8 (by decide) ?_
  refine lv_bipush (v := 104) hx hb dX7_nextPlate_10 (by decide) ?_
  refine mk_i (w2 := fun u : Unit => wd_X7 cI cJ cZ cH aT aTl atH atE atEd atEf atEs atP atPh atPm atcE atcEd atcEf atcEs t_letters t_length t_at_1_1 t_place_1_2 t_token_1_3 t_number_1_4 t_rateTold t_wrapTold t_startTold th_rate th_wrap te_days te_firsts te_seconds te_size tp_held tp_most tp_start tp_heldInAll tce_days tce_firsts tce_seconds tce_size) (wc := wd_E cI cJ cZ cH ) hP hD hS hA [] [0, 1, 2, 3, 4, 5, 6, 7, 8, 9, 10, 11, 12, 13] [0, 1, 2, 3, 4, 5, 6, 7, 8, 9, 10, 11, 12, 13] rfl rfl rfl rfl (by decide) rfl (fun _ => rfl) (fun hPc hDc => va_runSN (As := [.int t_token_1_3, .int (97 : Int32), .int (104 : Int32)]) (rest := []) ⟨hx, hb, hml, hown, hts⟩ (c_X8_isWithin l dC dI cI cJ cZ cH H.size t_token_1_3 (97 : Int32) (104 : Int32) hf) ⟨va_cnB 3 hts (gI kw472) rfl rfl rfl hN.2.2.2.2.2.2.1 (hts _ kw1) (by decide +kernel) ⟨Nat.le_of_ble_eq_true rfl, Nat.le_of_ble_eq_true rfl⟩, hts _ kw471, trivial⟩ ⟨PX_blind, PX_pre hPc hDc hK hN⟩ rfl rfl hl.1 rfl (lv_room (Nat.le_of_ble_eq_true rfl)) dX7_nextPlate_12 ⟨Nat.le_of_ble_eq_true rfl, Nat.le_of_ble_eq_true rfl⟩) (fun r12_5 u H locs hf hP hD hS => ?_)
  try dsimp only at hf
  have hP : va_P (dC, dI) vwCl (wd_X7 cI cJ cZ cH aT aTl atH atE atEd atEf atEs atP atPh atPm atcE atcEd atcEf atcEs t_letters t_length t_at_1_1 t_place_1_2 t_token_1_3 t_number_1_4 t_rateTold t_wrapTold t_startTold th_rate th_wrap te_days te_firsts te_seconds te_size tp_held tp_most tp_start tp_heldInAll tce_days tce_firsts tce_seconds tce_size) H := hP
  have hD : va_D A (wd_X7 cI cJ cZ cH aT aTl atH atE atEd atEf atEs atP atPh atPm atcE atcEd atcEf atcEs t_letters t_length t_at_1_1 t_place_1_2 t_token_1_3 t_number_1_4 t_rateTold t_wrapTold t_startTold th_rate th_wrap te_days te_firsts te_seconds te_size tp_held tp_most tp_start tp_heldInAll tce_days tce_firsts tce_seconds tce_size) := hD
  refine lv_if_eq (tgt := 28) hx hb dX7_nextPlate_15 (by decide) (fun c15 => ?_) (fun c15 => ?_)
  · have hf := hf.1 c15
    refine lv_bipush (v := (-9)) hx hb dX7_nextPlate_28 (by decide) ?_
    exact J30  (-9 : Int32) t_at_1_1 t_place_1_2 t_token_1_3 t_number_1_4 hf _ _ _ hP hD hS (lv_sub hl [] rfl)
  · have hf := hf.2 c15
    refine lv_aload_n hx hb dX7_nextPlate_18 rfl (lv_at hl 0 rfl) ?_
    refine va_get (D := (dC, dI)) (ci := 7) (v := .int t_token_1_3) (C := RX7) (T := TX7) (N := 11) hx hb hts inX7 hown hK hP 0 rfl rfl 6 (by decide) (hts _ kw130) (fun _ h9 => h9) rfl dX7_nextPlate_19 ?_
    refine lv_bipush (v := 97) hx hb dX7_nextPlate_22 (by decide) ?_
    refine lv_isub hx hb dX7_nextPlate_24 ?_
    refine lv_goto (tgt := 30) hx hb dX7_nextPlate_25 (by decide) ?_
    exact J30  (t_token_1_3 - (97 : Int32)) t_at_1_1 t_place_1_2 t_token_1_3 t_number_1_4 hf _ _ _ hP hD hS (lv_sub hl [] rfl)
