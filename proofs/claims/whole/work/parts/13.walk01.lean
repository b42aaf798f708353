abbrev rm_X6_standOf : Room := { frames := 0, cells := 0, slots := 0, locals := 0 }
set_option maxHeartbeats 4000000 in
set_option maxRecDepth 100000 in
theorem c_X6_standOf (l : Launch) (dC : Nat → ClassId) (dI : Nat → Nat → Nat) (cI cJ cZ cH : ClassId) (sz : Nat) (p0 : Int32) (p1 : Int32) {Q : Int32 → Prop} (hf : wp_X6_standOf p0 p1 Q) : Met l yX6_standOf (.code yX6_standOf cX6_standOf 2 (some .int) :: GW) rm_X6_standOf (va_Pc [.int p0, .int p1] (PX (dC, dI) cI cJ cZ cH (wd_E cI cJ cZ cH ) sz)) (va_Qi (fun (r : Int32) (_u : Unit) => Q r ) (fun u t => BX (dC, dI) (wd_E cI cJ cZ cH ) (va_A (wd_E cI cJ cZ cH ) sz) t) (va_A (wd_E cI cJ cZ cH ) sz)) 0 0 (va_A (wd_E cI cJ cZ cH ) sz) := by
  refine Met_i (w1 := fun u : Unit => wd_E cI cJ cZ cH ) (by decide) (Nat.le_of_ble_eq_true rfl) ?_
  intro p e s m below meth c A Z ls hsz hx hb hml hown hts hmn hA hP hK hN hD hS hl hRet
  have hown : s.vm.findClass "MilesKept$Stands" = some m.cls := hown
  have hl : lv_has ls 2 [(0, .int p0), (1, .int p1)] := hl
  unfold wp_X6_standOf at hf
  refine lv_iload_n hx hb dX6_standOf_0 rfl (lv_at hl 0 rfl) ?_
  refine lv_iconst (v := 1) hx hb dX6_standOf_1 (by decide) ?_
  refine lv_iadd hx hb dX6_standOf_2 ?_
  refine lv_iconst (v := 2) hx hb dX6_standOf_3 (by decide) ?_
  refine lv_imul hx hb dX6_standOf_4 ?_
  refine lv_iload_n hx hb dX6_standOf_5 rfl (lv_at hl 1 rfl) ?_
  refine lv_iadd hx hb dX6_standOf_6 ?_
  refine lv_iconst (v := 4) hx hb dX6_standOf_7 (by decide) ?_
  refine lv_imul hx hb dX6_standOf_8 ?_
  exact hRet _ _ _ _ ((((p0 + (1 : Int32)) * (2 : Int32)) + p1) * (4 : Int32)) () hf hP hD hS dX6_standOf_9
abbrev rm_X6_place : Room := { frames := 0, cells := 0, slots := 0, locals := 0 }
set_option maxHeartbeats 4000000 in
set_option maxRecDepth 100000 in
theorem c_X6_place (l : Launch) (dC : Nat → ClassId) (dI : Nat → Nat → Nat) (cI cJ cZ cH : ClassId) (aH : Nat) (aE : Nat) (aEd : Nat) (aEf : Nat) (aEs : Nat) (aS : Nat) (aSd : Nat) (aSf : Nat) (aSg : Nat) (sz : Nat) (h_rate : Int32) (h_wrap : Int32) (e_days : Nat → Int32) (e_firsts : Nat → Int32) (e_seconds : Nat → Int32) (e_size : Int32) (s_days : Nat → Int32) (s_fars : Nat → Int32) (s_goods : Nat → Int32) (p1 : Int32) (p2 : Int32) (p3 : Int32) (p4 : Int32) {Q : (Nat → Int32) → (Nat → Int32) → (Nat → Int32) → Prop} (hf : wp_X6_place h_wrap s_days s_fars s_goods p1 p2 p3 p4 Q) : Met l yX6_place (.code yX6_place cX6_place 6 none :: GW) rm_X6_place (va_Pc [.ref aS, .int p1, .int p2, .int p3, .int p4] (PX (dC, dI) cI cJ cZ cH (wd_X6 cI cJ cZ cH aH aE aEd aEf aEs aS aSd aSf aSg h_rate h_wrap e_days e_firsts e_seconds e_size s_days s_fars s_goods) sz)) (va_Qv (fun (u : (Nat → Int32) × (Nat → Int32) × (Nat → Int32)) => Q u.1 u.2.1 u.2.2) (fun u t => BX (dC, dI) (wd_X6 cI cJ cZ cH aH aE aEd aEf aEs aS aSd aSf aSg h_rate h_wrap e_days e_firsts e_seconds e_size u.1 u.2.1 u.2.2) (va_A (wd_X6 cI cJ cZ cH aH aE aEd aEf aEs aS aSd aSf aSg h_rate h_wrap e_days e_firsts e_seconds e_size s_days s_fars s_goods) sz) t) (va_A (wd_X6 cI cJ cZ cH aH aE aEd aEf aEs aS aSd aSf aSg h_rate h_wrap e_days e_firsts e_seconds e_size s_days s_fars s_goods) sz)) 0 0 (va_A (wd_X6 cI cJ cZ cH aH aE aEd aEf aEs aS aSd aSf aSg h_rate h_wrap e_days e_firsts e_seconds e_size s_days s_fars s_goods) sz) := by
  refine Met_v (w1 := fun u : (Nat → Int32) × (Nat → Int32) × (Nat → Int32) => wd_X6 cI cJ cZ cH aH aE aEd aEf aEs aS aSd aSf aSg h_rate h_wrap e_days e_firsts e_seconds e_size u.1 u.2.1 u.2.2) (by decide) (Nat.le_of_ble_eq_true rfl) ?_
  intro p e s m below meth c A Z ls hsz hx hb hml hown hts hmn hA hP hK hN hD hS hl hRet
  have hown : s.vm.findClass "MilesKept$Stands" = some m.cls := hown
  have hl : lv_has ls 6 [(0, .ref aS), (1, .int p1), (2, .int p2), (3, .int p3), (4, .int p4)] := hl
  have L3 : ∀ (n : Nat) (v1 : Int32) (v2 : Int32) (v3 : Int32) (v4 : Int32) (v5 : Int32) (s_days : Nat → Int32) (s_fars : Nat → Int32) (s_goods : Nat → Int32), wp_X6_place_h3 h_wrap Q  n v1 v2 v3 v4 v5 s_days s_fars s_goods → ∀ (H : Heap) (locs : List Loc) (ls : Array Slot), va_P (dC, dI) vwCl (wd_X6 cI cJ cZ cH aH aE aEd aEf aEs aS aSd aSf aSg h_rate h_wrap e_days e_firsts e_seconds e_size s_days s_fars s_goods) H → va_D A (wd_X6 cI cJ cZ cH aH aE aEd aEf aEs aS aSd aSf aSg h_rate h_wrap e_days e_firsts e_seconds e_size s_days s_fars s_goods) → va_S A s.heap H locs → lv_has ls 6 [(0, .ref aS), (1, .int v1), (2, .int v2), (3, .int v3), (4, .int v4), (5, .int v5)] → W p l e rm_X6_place s m ([Value.ref aS, Value.int p1, Value.int p2, Value.int p3, Value.int p4] : List Value).toArray below meth c H locs 0 0 Z (F0 m 3 ls []) := by
    intro n
    induction n with
    | zero =>
      intro v1 v2 v3 v4 v5 s_days s_fars s_goods hf
      exact False.elim hf
    | succ n hK3 =>
      intro v1 v2 v3 v4 v5 s_days s_fars s_goods hf H locs ls hP hD hS hl
      simp only [wp_X6_place_h3] at hf
      refine lv_iload hx hb dX6_place_3 (lv_at hl 5 rfl) ?_
      refine lv_iconst (v := 4) hx hb dX6_place_5 (by decide) ?_
      refine lv_icmp_ge (tgt := 57) hx hb dX6_place_6 (by decide) (fun c6 => ?_) (fun c6 => ?_)
      · have hf := hf.1 c6
        exact hRet _ _ _ _ (s_days, s_fars, s_goods) hf hP hD hS dX6_place_57
      · have hf := hf.2 c6
        refine lv_aload_n hx hb dX6_place_9 rfl (lv_at hl 0 rfl) ?_
        refine va_get (D := (dC, dI)) (ci := 6) (v := .ref aSd) (C := RX6) (T := TX6) (N := 4) hx hb hts inX6 hown hK hP 5 rfl rfl 0 (by decide) (hts _ kw184) (fun _ h9 => h9) rfl dX6_place_10 ?_
        refine lv_iload_n hx hb dX6_place_13 rfl (lv_at hl 1 rfl) ?_
        refine lv_iload hx hb dX6_place_14 (lv_at hl 5 rfl) ?_
        refine lv_iadd hx hb dX6_place_16 ?_
        refine lv_iload_n hx hb dX6_place_17 rfl (lv_at hl 2 rfl) ?_
        obtain ⟨hin, hf⟩ := hf
        refine va_iast hx hb hK hP hD hS 6 0 rfl rfl hin dX6_place_18 (fun H locs hP hD hS => ?_)
        have hP : va_P (dC, dI) vwCl (wd_X6 cI cJ cZ cH aH aE aEd aEf aEs aS aSd aSf aSg h_rate h_wrap e_days e_firsts e_seconds e_size (upd s_days (v1 + v5).toNatClampNeg v2) s_fars s_goods) H := hP
        have hD : va_D A (wd_X6 cI cJ cZ cH aH aE aEd aEf aEs aS aSd aSf aSg h_rate h_wrap e_days e_firsts e_seconds e_size (upd s_days (v1 + v5).toNatClampNeg v2) s_fars s_goods) := hD
        refine lv_aload_n hx hb dX6_place_19 rfl (lv_at hl 0 rfl) ?_
        refine va_get (D := (dC, dI)) (ci := 6) (v := .ref aSf) (C := RX6) (T := TX6) (N := 4) hx hb hts inX6 hown hK hP 5 rfl rfl 1 (by decide) (hts _ kw186) (fun _ h9 => h9) rfl dX6_place_20 ?_
        refine lv_iload_n hx hb dX6_place_23 rfl (lv_at hl 1 rfl) ?_
        refine lv_iload hx hb dX6_place_24 (lv_at hl 5 rfl) ?_
        refine lv_iadd hx hb dX6_place_26 ?_
        refine lv_iload_n hx hb dX6_place_27 rfl (lv_at hl 3 rfl) ?_
        refine lv_iload hx hb dX6_place_28 (lv_at hl 5 rfl) ?_
        refine lv_aload_n hx hb dX6_place_30 rfl (lv_at hl 0 rfl) ?_
        refine va_get (D := (dC, dI)) (ci := 6) (v := .ref aH) (C := RX6) (T := TX6) (N := 4) hx hb hts inX6 hown hK hP 5 rfl rfl 3 (by decide) (hts _ kw191) (fun _ h9 => h9) rfl dX6_place_31 ?_
        refine va_get (D := (dC, dI)) (ci := 1) (v := .int h_wrap) (C := RX1) (T := TX1) (N := 3) hx hb hts inX1 hown hK hP 0 rfl rfl 2 (by decide) (hts _ kw70) (fun _ h9 => h9) rfl dX6_place_34 ?_
        refine lv_imul hx hb dX6_place_37 ?_
        refine lv_iadd hx hb dX6_place_38 ?_
        refine lv_topi (fun x39_1 ex39_1 => ?_)
        have hf := hf x39_1 ex39_1
        obtain ⟨hin, hf⟩ := hf
        refine va_iast hx hb hK hP hD hS 7 0 rfl rfl hin dX6_place_39 (fun H locs hP hD hS => ?_)
        have hP : va_P (dC, dI) vwCl (wd_X6 cI cJ cZ cH aH aE aEd aEf aEs aS aSd aSf aSg h_rate h_wrap e_days e_firsts e_seconds e_size (upd s_days (v1 + v5).toNatClampNeg v2) (upd s_fars (v1 + v5).toNatClampNeg x39_1) s_goods) H := hP
        have hD : va_D A (wd_X6 cI cJ cZ cH aH aE aEd aEf aEs aS aSd aSf aSg h_rate h_wrap e_days e_firsts e_seconds e_size (upd s_days (v1 + v5).toNatClampNeg v2) (upd s_fars (v1 + v5).toNatClampNeg x39_1) s_goods) := hD
        refine lv_aload_n hx hb dX6_place_40 rfl (lv_at hl 0 rfl) ?_
        refine va_get (D := (dC, dI)) (ci := 6) (v := .ref aSg) (C := RX6) (T := TX6) (N := 4) hx hb hts inX6 hown hK hP 5 rfl rfl 2 (by decide) (hts _ kw188) (fun _ h9 => h9) rfl dX6_place_41 ?_
        refine lv_iload_n hx hb dX6_place_44 rfl (lv_at hl 1 rfl) ?_
        refine lv_iload hx hb dX6_place_45 (lv_at hl 5 rfl) ?_
        refine lv_iadd hx hb dX6_place_47 ?_
        refine lv_iload hx hb dX6_place_48 (lv_at hl 4 rfl) ?_
        obtain ⟨hin, hf⟩ := hf
        refine va_iast hx hb hK hP hD hS 8 0 rfl rfl hin dX6_place_50 (fun H locs hP hD hS => ?_)
        have hP : va_P (dC, dI) vwCl (wd_X6 cI cJ cZ cH aH aE aEd aEf aEs aS aSd aSf aSg h_rate h_wrap e_days e_firsts e_seconds e_size (upd s_days (v1 + v5).toNatClampNeg v2) (upd s_fars (v1 + v5).toNatClampNeg x39_1) (upd s_goods (v1 + v5).toNatClampNeg v4)) H := hP
        have hD : va_D A (wd_X6 cI cJ cZ cH aH aE aEd aEf aEs aS aSd aSf aSg h_rate h_wrap e_days e_firsts e_seconds e_size (upd s_days (v1 + v5).toNatClampNeg v2) (upd s_fars (v1 + v5).toNatClampNeg x39_1) (upd s_goods (v1 + v5).toNatClampNeg v4)) := hD
        obtain ⟨x51_2, ex51_2⟩ : ∃ y : Int32, y = v5 + 1 := ⟨_, rfl⟩
        have hf := hf x51_2 ex51_2
        refine lv_iinc (v := x51_2) (lv' := [(5, .int x51_2), (0, .ref aS), (1, .int v1), (2, .int v2), (3, .int v3), (4, .int v4)]) hx hb dX6_place_51 hl (k := 5) rfl (by rw [ex51_2]; rfl) (by decide) rfl (fun ls hl => ?_)
        refine lv_goto (tgt := 3) hx hb dX6_place_54 (by decide) ?_
        exact hK3 v1 v2 v3 v4 x51_2 (upd s_days (v1 + v5).toNatClampNeg v2) (upd s_fars (v1 + v5).toNatClampNeg x39_1) (upd s_goods (v1 + v5).toNatClampNeg v4) hf _ _ _ hP hD hS (lv_sub hl [1, 2, 3, 4, 5, 0] rfl)
  unfold wp_X6_place at hf
  refine lv_iconst (v := 0) hx hb dX6_place_0 (by decide) ?_
  refine lv_istore (lv' := [(5, .int (0 : Int32)), (0, .ref aS), (1, .int p1), (2, .int p2), (3, .int p3), (4, .int p4)]) hx hb dX6_place_1 hl (by decide) rfl (fun ls hl => ?_)
  obtain ⟨n9, hf⟩ := hf
  exact L3  n9 p1 p2 p3 p4 (0 : Int32) s_days s_fars s_goods hf _ _ _ hP hD hS (lv_sub hl [1, 2, 3, 4, 5, 0] rfl)
abbrev rm_X6_measure : Room := { frames := 1, cells := 0, slots := 0, locals := 25 }
set_option maxHeartbeats 4000000 in
set_option maxRecDepth 100000 in
theorem c_X6_measure (l : Launch) (dC : Nat → ClassId) (dI : Nat → Nat → Nat) (cI cJ cZ cH : ClassId) (aH : Nat) (aE : Nat) (aEd : Nat) (aEf : Nat) (aEs : Nat) (aS : Nat) (aSd : Nat) (aSf : Nat) (aSg : Nat) (sz : Nat) (h_rate : Int32) (h_wrap : Int32) (e_days : Nat → Int32) (e_firsts : Nat → Int32) (e_seconds : Nat → Int32) (e_size : Int32) (s_days : Nat → Int32) (s_fars : Nat → Int32) (s_goods : Nat → Int32) {Q : (Nat → Int32) → (Nat → Int32) → (Nat → Int32) → Prop} (hf : wp_X6_measure h_wrap e_days e_firsts e_seconds e_size s_days s_fars s_goods Q) : Met l yX6_measure (.code yX6_measure cX6_measure 5 none :: GW) rm_X6_measure (va_Pc [.ref aS] (PX (dC, dI) cI cJ cZ cH (wd_X6 cI cJ cZ cH aH aE aEd aEf aEs aS aSd aSf aSg h_rate h_wrap e_days e_firsts e_seconds e_size s_days s_fars s_goods) sz)) (va_Qv (fun (u : (Nat → Int32) × (Nat → Int32) × (Nat → Int32)) => Q u.1 u.2.1 u.2.2) (fun u t => BX (dC, dI) (wd_X6 cI cJ cZ cH aH aE aEd aEf aEs aS aSd aSf aSg h_rate h_wrap e_days e_firsts e_seconds e_size u.1 u.2.1 u.2.2) (va_A (wd_X6 cI cJ cZ cH aH aE aEd aEf aEs aS aSd aSf aSg h_rate h_wrap e_days e_firsts e_seconds e_size s_days s_fars s_goods) sz) t) (va_A (wd_X6 cI cJ cZ cH aH aE aEd aEf aEs aS aSd aSf aSg h_rate h_wrap e_days e_firsts e_seconds e_size s_days s_fars s_goods) sz)) 0 0 (va_A (wd_X6 cI cJ cZ cH aH aE aEd aEf aEs aS aSd aSf aSg h_rate h_wrap e_days e_firsts e_seconds e_size s_days s_fars s_goods) sz) := by
  refine Met_v (w1 := fun u : (Nat → Int32) × (Nat → Int32) × (Nat → Int32) => wd_X6 cI cJ cZ cH aH aE aEd aEf aEs aS aSd aSf aSg h_rate h_wrap e_days e_firsts e_seconds e_size u.1 u.2.1 u.2.2) (by decide) (Nat.le_of_ble_eq_true rfl) ?_
  intro p e s m below meth c A Z ls hsz hx hb hml hown hts hmn hA hP hK hN hD hS hl hRet
  have hown : s.vm.findClass "MilesKept$Stands" = some m.cls := hown
  have hl : lv_has ls 5 [(0, .ref aS)] := hl
  have L10 : ∀ (n : Nat) (v2 : Int32) (s_days : Nat → Int32) (s_fars : Nat → Int32) (s_goods : Nat → Int32), wp_X6_measure_h10 h_wrap e_days e_firsts e_seconds e_size Q  n v2 s_days s_fars s_goods → ∀ (H : Heap) (locs : List Loc) (ls : Array Slot), va_P (dC, dI) vwCl (wd_X6 cI cJ cZ cH aH aE aEd aEf aEs aS aSd aSf aSg h_rate h_wrap e_days e_firsts e_seconds e_size s_days s_fars s_goods) H → va_D A (wd_X6 cI cJ cZ cH aH aE aEd aEf aEs aS aSd aSf aSg h_rate h_wrap e_days e_firsts e_seconds e_size s_days s_fars s_goods) → va_S A s.heap H locs → lv_has ls 5 [(0, .ref aS), (1, .ref aE), (2, .int v2)] → W p l e rm_X6_measure s m ([Value.ref aS] : List Value).toArray below meth c H locs 0 0 Z (F0 m 10 ls []) := by
    intro n
    induction n with
    | zero =>
      intro v2 s_days s_fars s_goods hf
      exact False.elim hf
    | succ n hK10 =>
      intro v2 s_days s_fars s_goods hf H locs ls hP hD hS hl
      simp only [wp_X6_measure_h10] at hf
      refine lv_iload_n hx hb dX6_measure_10 rfl (lv_at hl 2 rfl) ?_
      refine lv_aload_n hx hb dX6_measure_11 rfl (lv_at hl 1 rfl) ?_
      refine va_get (D := (dC, dI)) (ci := 0) (v := .int e_size) (C := RX0) (T := TX0) (N := 4) hx hb hts inX0 hown hK hP 1 rfl rfl 3 (by decide) (hts _ kw49) (fun _ h9 => h9) rfl dX6_measure_12 ?_
      refine lv_icmp_ge (tgt := 82) hx hb dX6_measure_15 (by decide) (fun c15 => ?_) (fun c15 => ?_)
      · have hf := hf.1 c15
        exact hRet _ _ _ _ (s_days, s_fars, s_goods) hf hP hD hS dX6_measure_82
      · have hf := hf.2 c15
        refine lv_aload_n hx hb dX6_measure_18 rfl (lv_at hl 1 rfl) ?_
        refine va_get (D := (dC, dI)) (ci := 0) (v := .ref aEf) (C := RX0) (T := TX0) (N := 4) hx hb hts inX0 hown hK hP 1 rfl rfl 1 (by decide) (hts _ kw41) (fun _ h9 => h9) rfl dX6_measure_19 ?_
        refine lv_iload_n hx hb dX6_measure_22 rfl (lv_at hl 2 rfl) ?_
        obtain ⟨hin, hf⟩ := hf
        refine va_iald hx hb hK hP 3 0 rfl rfl hin dX6_measure_23 ?_
        refine lv_topi (fun x24_1 ex24_1 => ?_)
        have hf := hf x24_1 ex24_1
        refine lv_istore_n (lv' := [(3, .int x24_1), (0, .ref aS), (1, .ref aE), (2, .int v2)]) hx hb dX6_measure_24 rfl hl (by decide) rfl (fun ls hl => ?_)
        refine lv_aload_n hx hb dX6_measure_25 rfl (lv_at hl 2 rfl) ?_
        refine va_get (D := (dC, dI)) (ci := 0) (v := .ref aEs) (C := RX0) (T := TX0) (N := 4) hx hb hts inX0 hown hK hP 1 rfl rfl 2 (by decide) (hts _ kw45) (fun _ h9 => h9) rfl dX6_measure_26 ?_
        refine lv_iload_n hx hb dX6_measure_29 rfl (lv_at hl 3 rfl) ?_
        obtain ⟨hin, hf⟩ := hf
        refine va_iald hx hb hK hP 4 0 rfl rfl hin dX6_measure_30 ?_
        refine lv_topi (fun x31_2 ex31_2 => ?_)
        have hf := hf x31_2 ex31_2
        refine lv_istore (lv' := [(4, .int x31_2), (3, .int x24_1), (0, .ref aS), (1, .ref aE), (2, .int v2)]) hx hb dX6_measure_31 hl (by decide) rfl (fun ls hl => ?_)
        refine lv_aload_n hx hb dX6_measure_33 rfl (lv_at hl 2 rfl) ?_
        refine lv_iload_n hx hb dX6_measure_34 rfl (lv_at hl 4 rfl) ?_
        refine lv_iconst (v := 0) hx hb dX6_measure_35 (by decide) ?_
        refine mk_i (w2 := fun u : Unit => wd_X6 cI cJ cZ cH aH aE aEd aEf aEs aS aSd aSf aSg h_rate h_wrap e_days e_firsts e_seconds e_size s_days s_fars s_goods) (wc := wd_E cI cJ cZ cH ) hP hD hS hA [] [0, 1, 2, 3, 4, 5, 6, 7, 8] [0, 1, 2, 3, 4, 5, 6, 7, 8] rfl rfl rfl rfl (by decide) rfl (fun _ => rfl) (fun hPc hDc => va_runS (As := [.int v2, .int (0 : Int32)]) (rest := [.ref aS]) ⟨hx, hb, hml, hown, hts⟩ (c_X6_standOf l dC dI cI cJ cZ cH H.size v2 (0 : Int32) hf) (va_cwS 2 hts (gS kw279 kw280 kw7 kw281) rfl rfl rfl (by decide +kernel) ⟨Nat.le_of_ble_eq_true rfl, Nat.le_of_ble_eq_true rfl⟩) ⟨PX_blind, PX_pre hPc hDc hK hN⟩ rfl rfl hl.1 rfl (lv_room (Nat.le_of_ble_eq_true rfl)) dX6_measure_36 ⟨Nat.le_of_ble_eq_true rfl, Nat.le_of_ble_eq_true rfl⟩) (fun r36_3 u H locs hf hP hD hS => ?_)
        try dsimp only at hf
        have hP : va_P (dC, dI) vwCl (wd_X6 cI cJ cZ cH aH aE aEd aEf aEs aS aSd aSf aSg h_rate h_wrap e_days e_firsts e_seconds e_size s_days s_fars s_goods) H := hP
        have hD : va_D A (wd_X6 cI cJ cZ cH aH aE aEd aEf aEs aS aSd aSf aSg h_rate h_wrap e_days e_firsts e_seconds e_size s_days s_fars s_goods) := hD
        refine lv_aload_n hx hb dX6_measure_39 rfl (lv_at hl 3 rfl) ?_
        refine va_get (D := (dC, dI)) (ci := 0) (v := .ref aEd) (C := RX0) (T := TX0) (N := 4) hx hb hts inX0 hown hK hP 1 rfl rfl 0 (by decide) (hts _ kw37) (fun _ h9 => h9) rfl dX6_measure_40 ?_
        refine lv_iload_n hx hb dX6_measure_43 rfl (lv_at hl 4 rfl) ?_
        obtain ⟨hin, hf⟩ := hf
        refine va_iald hx hb hK hP 2 0 rfl rfl hin dX6_measure_44 ?_
        refine lv_iload_n hx hb dX6_measure_45 rfl (lv_at hl 1 rfl) ?_
        refine lv_iconst (v := 2) hx hb dX6_measure_46 (by decide) ?_
        refine lv_iload hx hb dX6_measure_47 (lv_at hl 0 rfl) ?_
        refine lv_imul hx hb dX6_measure_49 ?_
        refine mk_v (w2 := fun u : (Nat → Int32) × (Nat → Int32) × (Nat → Int32) => wd_X6 cI cJ cZ cH aH aE aEd aEf aEs aS aSd aSf aSg h_rate h_wrap e_days e_firsts e_seconds e_size u.1 u.2.1 u.2.2) (wc := wd_X6 cI cJ cZ cH aH aE aEd aEf aEs aS aSd aSf aSg h_rate h_wrap e_days e_firsts e_seconds e_size s_days s_fars s_goods) hP hD hS hA [0, 1, 2, 3, 4, 5, 6, 7, 8] [] [0, 1, 2, 3, 4, 5, 6, 7, 8] rfl rfl rfl rfl (by decide) rfl (fun _ => rfl) (fun hPc hDc => va_runV (As := [.int r36_3, .int (e_days v2.toNatClampNeg), .int x24_1, .int ((2 : Int32) * x31_2)]) (rest := []) ⟨hx, hb, hml, hown, hts⟩ (c_X6_place l dC dI cI cJ cZ cH aH aE aEd aEf aEs aS aSd aSf aSg H.size h_rate h_wrap e_days e_firsts e_seconds e_size s_days s_fars s_goods r36_3 (e_days v2.toNatClampNeg) x24_1 ((2 : Int32) * x31_2) hf) (cwV 4 hts (gV kw282 kw284 kp1 kw7 kw285) rfl rfl rfl (by decide +kernel) ⟨Nat.le_of_ble_eq_true rfl, Nat.le_of_ble_eq_true rfl⟩) ⟨PX_blind, va_recv hK hPc (ci := 6) (q0 := 5) rfl rfl, PX_pre hPc hDc hK hN⟩ rfl rfl hl.1 rfl (lv_room (Nat.le_of_ble_eq_true rfl)) dX6_measure_50 ⟨Nat.le_of_ble_eq_true rfl, Nat.le_of_ble_eq_true rfl⟩) (fun u H locs hf hP hD hS => ?_)
        obtain ⟨s_days_50_4, s_fars_50_5, s_goods_50_6⟩ := u
        try dsimp only at hf
        have hP : va_P (dC, dI) vwCl (wd_X6 cI cJ cZ cH aH aE aEd aEf aEs aS aSd aSf aSg h_rate h_wrap e_days e_firsts e_seconds e_size s_days_50_4 s_fars_50_5 s_goods_50_6) H := hP
        have hD : va_D A (wd_X6 cI cJ cZ cH aH aE aEd aEf aEs aS aSd aSf aSg h_rate h_wrap e_days e_firsts e_seconds e_size s_days_50_4 s_fars_50_5 s_goods_50_6) := hD
        refine lv_aload_n hx hb dX6_measure_53 rfl (lv_at hl 2 rfl) ?_
        refine lv_iload_n hx hb dX6_measure_54 rfl (lv_at hl 4 rfl) ?_
        refine lv_iconst (v := 1) hx hb dX6_measure_55 (by decide) ?_
        refine mk_i (w2 := fun u : Unit => wd_X6 cI cJ cZ cH aH aE aEd aEf aEs aS aSd aSf aSg h_rate h_wrap e_days e_firsts e_seconds e_size s_days_50_4 s_fars_50_5 s_goods_50_6) (wc := wd_E cI cJ cZ cH ) hP hD hS hA [] [0, 1, 2, 3, 4, 5, 6, 7, 8] [0, 1, 2, 3, 4, 5, 6, 7, 8] rfl rfl rfl rfl (by decide) rfl (fun _ => rfl) (fun hPc hDc => va_runS (As := [.int v2, .int (1 : Int32)]) (rest := [.ref aS]) ⟨hx, hb, hml, hown, hts⟩ (c_X6_standOf l dC dI cI cJ cZ cH H.size v2 (1 : Int32) hf) (va_cwS 2 hts (gS kw279 kw280 kw7 kw281) rfl rfl rfl (by decide +kernel) ⟨Nat.le_of_ble_eq_true rfl, Nat.le_of_ble_eq_true rfl⟩) ⟨PX_blind, PX_pre hPc hDc hK hN⟩ rfl rfl hl.1 rfl (lv_room (Nat.le_of_ble_eq_true rfl)) dX6_measure_56 ⟨Nat.le_of_ble_eq_true rfl, Nat.le_of_ble_eq_true rfl⟩) (fun r56_7 u H locs hf hP hD hS => ?_)
        try dsimp only at hf
        have hP : va_P (dC, dI) vwCl (wd_X6 cI cJ cZ cH aH aE aEd aEf aEs aS aSd aSf aSg h_rate h_wrap e_days e_firsts e_seconds e_size s_days_50_4 s_fars_50_5 s_goods_50_6) H := hP
        have hD : va_D A (wd_X6 cI cJ cZ cH aH aE aEd aEf aEs aS aSd aSf aSg h_rate h_wrap e_days e_firsts e_seconds e_size s_days_50_4 s_fars_50_5 s_goods_50_6) := hD
        refine lv_aload_n hx hb dX6_measure_59 rfl (lv_at hl 3 rfl) ?_
        refine va_get (D := (dC, dI)) (ci := 0) (v := .ref aEd) (C := RX0) (T := TX0) (N := 4) hx hb hts inX0 hown hK hP 1 rfl rfl 0 (by decide) (hts _ kw37) (fun _ h9 => h9) rfl dX6_measure_60 ?_
        refine lv_iload_n hx hb dX6_measure_63 rfl (lv_at hl 4 rfl) ?_
        obtain ⟨hin, hf⟩ := hf
        refine va_iald hx hb hK hP 2 0 rfl rfl hin dX6_measure_64 ?_
        refine lv_iload_n hx hb dX6_measure_65 rfl (lv_at hl 1 rfl) ?_
        refine lv_iconst (v := 5) hx hb dX6_measure_66 (by decide) ?_
        refine lv_imul hx hb dX6_measure_67 ?_
        refine lv_bipush (v := 8) hx hb dX6_measure_68 (by decide) ?_
        refine lv_idiv hx hb dX6_measure_70 (by decide) ?_
        refine lv_iload hx hb dX6_measure_71 (lv_at hl 0 rfl) ?_
        refine mk_v (w2 := fun u : (Nat → Int32) × (Nat → Int32) × (Nat → Int32) => wd_X6 cI cJ cZ cH aH aE aEd aEf aEs aS aSd aSf aSg h_rate h_wrap e_days e_firsts e_seconds e_size u.1 u.2.1 u.2.2) (wc := wd_X6 cI cJ cZ cH aH aE aEd aEf aEs aS aSd aSf aSg h_rate h_wrap e_days e_firsts e_seconds e_size s_days_50_4 s_fars_50_5 s_goods_50_6) hP hD hS hA [0, 1, 2, 3, 4, 5, 6, 7, 8] [] [0, 1, 2, 3, 4, 5, 6, 7, 8] rfl rfl rfl rfl (by decide) rfl (fun _ => rfl) (fun hPc hDc => va_runV (As := [.int r56_7, .int (e_days v2.toNatClampNeg), .int ((x24_1 * (5 : Int32)) / (8 : Int32)), .int x31_2]) (rest := []) ⟨hx, hb, hml, hown, hts⟩ (c_X6_place l dC dI cI cJ cZ cH aH aE aEd aEf aEs aS aSd aSf aSg H.size h_rate h_wrap e_days e_firsts e_seconds e_size s_days_50_4 s_fars_50_5 s_goods_50_6 r56_7 (e_days v2.toNatClampNeg) ((x24_1 * (5 : Int32)) / (8 : Int32)) x31_2 hf) (cwV 4 hts (gV kw282 kw284 kp1 kw7 kw285) rfl rfl rfl (by decide +kernel) ⟨Nat.le_of_ble_eq_true rfl, Nat.le_of_ble_eq_true rfl⟩) ⟨PX_blind, va_recv hK hPc (ci := 6) (q0 := 5) rfl rfl, PX_pre hPc hDc hK hN⟩ rfl rfl hl.1 rfl (lv_room (Nat.le_of_ble_eq_true rfl)) dX6_measure_73 ⟨Nat.le_of_ble_eq_true rfl, Nat.le_of_ble_eq_true rfl⟩) (fun u H locs hf hP hD hS => ?_)
        obtain ⟨s_days_73_8, s_fars_73_9, s_goods_73_10⟩ := u
        try dsimp only at hf
        have hP : va_P (dC, dI) vwCl (wd_X6 cI cJ cZ cH aH aE aEd aEf aEs aS aSd aSf aSg h_rate h_wrap e_days e_firsts e_seconds e_size s_days_73_8 s_fars_73_9 s_goods_73_10) H := hP
        have hD : va_D A (wd_X6 cI cJ cZ cH aH aE aEd aEf aEs aS aSd aSf aSg h_rate h_wrap e_days e_firsts e_seconds e_size s_days_73_8 s_fars_73_9 s_goods_73_10) := hD
        obtain ⟨x76_11, ex76_11⟩ : ∃ y : Int32, y = v2 + 1 := ⟨_, rfl⟩
        have hf := hf x76_11 ex76_11
        refine lv_iinc (v := x76_11) (lv' := [(2, .int x76_11), (4, .int x31_2), (3, .int x24_1), (0, .ref aS), (1, .ref aE)]) hx hb dX6_measure_76 hl (k := 4) rfl (by rw [ex76_11]; rfl) (by decide) rfl (fun ls hl => ?_)
        refine lv_goto (tgt := 10) hx hb dX6_measure_79 (by decide) ?_
        exact hK10 x76_11 s_days_73_8 s_fars_73_9 s_goods_73_10 hf _ _ _ hP hD hS (lv_sub hl [3, 4, 0] rfl)
  unfold wp_X6_measure at hf
  refine lv_aload_n hx hb dX6_measure_0 rfl (lv_at hl 0 rfl) ?_
  refine va_get (D := (dC, dI)) (ci := 6) (v := .ref aH) (C := RX6) (T := TX6) (N := 4) hx hb hts inX6 hown hK hP 5 rfl rfl 3 (by decide) (hts _ kw191) (fun _ h9 => h9) rfl dX6_measure_1 ?_
  refine va_get (D := (dC, dI)) (ci := 1) (v := .ref aE) (C := RX1) (T := TX1) (N := 3) hx hb hts inX1 hown hK hP 0 rfl rfl 0 (by decide) (hts _ kw62) (fun _ h9 => h9) rfl dX6_measure_4 ?_
  refine lv_astore_n (lv' := [(1, .ref aE), (0, .ref aS)]) hx hb dX6_measure_7 rfl hl (by decide) rfl (fun ls hl => ?_)
  refine lv_iconst (v := 0) hx hb dX6_measure_8 (by decide) ?_
  refine lv_istore_n (lv' := [(2, .int (0 : Int32)), (1, .ref aE), (0, .ref aS)]) hx hb dX6_measure_9 rfl hl (by decide) rfl (fun ls hl => ?_)
  obtain ⟨n9, hf⟩ := hf
  exact L10  n9 (0 : Int32) s_days s_fars s_goods hf _ _ _ hP hD hS (lv_sub hl [2, 1, 0] rfl)
abbrev rm_J7_fill_53178 : Room := { frames := 0, cells := 0, slots := 0, locals := 0 }
set_option maxHeartbeats 4000000 in
set_option maxRecDepth 100000 in
theorem c_J7_fill_53178 (l : Launch) (dC : Nat → ClassId) (dI : Nat → Nat → Nat) (cI cJ cZ cH : ClassId) (aA : Nat) (sz : Nat) (N : Nat) (f_row : Nat → Int32) (p1 : Int32) {Q : (Nat → Int32) → Prop} (hf : wp_J7_fill_53178 N f_row p1 Q) : Met l yJ7_fill_53178 (.code yJ7_fill_53178 cJ7_fill_53178 4 none :: GW) rm_J7_fill_53178 (va_Pc [.ref aA, .int p1] (PX (dC, dI) cI cJ cZ cH (wd_AI cI cJ cZ cH N aA f_row) sz)) (va_Qv (fun (u : (Nat → Int32)) => Q u) (fun u t => BX (dC, dI) (wd_AI cI cJ cZ cH N aA u) (va_A (wd_AI cI cJ cZ cH N aA f_row) sz) t) (va_A (wd_AI cI cJ cZ cH N aA f_row) sz)) 0 0 (va_A (wd_AI cI cJ cZ cH N aA f_row) sz) := by
  refine Met_v (w1 := fun u : (Nat → Int32) => wd_AI cI cJ cZ cH N aA u) (by decide) (Nat.le_of_ble_eq_true rfl) ?_
  intro p e s m below meth c A Z ls hsz hx hb hml hown hts hmn hA hP hK hN hD hS hl hRet
  have hown : s.vm.findClass "java/util/Arrays" = some m.cls := hown
  have hl : lv_has ls 4 [(0, .ref aA), (1, .int p1)] := hl
  have L5 : ∀ (n : Nat) (v1 : Int32) (v2 : Int32) (v3 : Int32) (f_row : Nat → Int32), wp_J7_fill_53178_h5 N Q  n v1 v2 v3 f_row → ∀ (H : Heap) (locs : List Loc) (ls : Array Slot), va_P (dC, dI) vwCl (wd_AI cI cJ cZ cH N aA f_row) H → va_D A (wd_AI cI cJ cZ cH N aA f_row) → va_S A s.heap H locs → lv_has ls 4 [(0, .ref aA), (1, .int v1), (2, .int v2), (3, .int v3)] → W p l e rm_J7_fill_53178 s m ([Value.ref aA, Value.int p1] : List Value).toArray below meth c H locs 0 0 Z (F0 m 5 ls []) := by
    intro n
    induction n with
    | zero =>
      intro v1 v2 v3 f_row hf
      exact False.elim hf
    | succ n hK5 =>
      intro v1 v2 v3 f_row hf H locs ls hP hD hS hl
      simp only [wp_J7_fill_53178_h5] at hf
      refine lv_iload_n hx hb dJ7_fill_53178_5 rfl (lv_at hl 2 rfl) ?_
      refine lv_iload_n hx hb dJ7_fill_53178_6 rfl (lv_at hl 3 rfl) ?_
      refine lv_icmp_ge (tgt := 20) hx hb dJ7_fill_53178_7 (by decide) (fun c7 => ?_) (fun c7 => ?_)
      · have hf := hf.1 c7
        exact hRet _ _ _ _ f_row hf hP hD hS dJ7_fill_53178_20
      · have hf := hf.2 c7
        refine lv_aload_n hx hb dJ7_fill_53178_10 rfl (lv_at hl 0 rfl) ?_
        refine lv_iload_n hx hb dJ7_fill_53178_11 rfl (lv_at hl 2 rfl) ?_
        refine lv_iload_n hx hb dJ7_fill_53178_12 rfl (lv_at hl 1 rfl) ?_
        obtain ⟨hin, hf⟩ := hf
        refine va_iast hx hb hK hP hD hS 0 0 rfl rfl hin dJ7_fill_53178_13 (fun H locs hP hD hS => ?_)
        have hP : va_P (dC, dI) vwCl (wd_AI cI cJ cZ cH N aA (upd f_row v2.toNatClampNeg v1)) H := hP
        have hD : va_D A (wd_AI cI cJ cZ cH N aA (upd f_row v2.toNatClampNeg v1)) := hD
        obtain ⟨x14_1, ex14_1⟩ : ∃ y : Int32, y = v2 + 1 := ⟨_, rfl⟩
        have hf := hf x14_1 ex14_1
        refine lv_iinc (v := x14_1) (lv' := [(2, .int x14_1), (0, .ref aA), (1, .int v1), (3, .int v3)]) hx hb dJ7_fill_53178_14 hl (k := 2) rfl (by rw [ex14_1]; rfl) (by decide) rfl (fun ls hl => ?_)
        refine lv_goto (tgt := 5) hx hb dJ7_fill_53178_17 (by decide) ?_
        exact hK5 v1 x14_1 v3 (upd f_row v2.toNatClampNeg v1) hf _ _ _ hP hD hS (lv_sub hl [1, 2, 0, 3] rfl)
  unfold wp_J7_fill_53178 at hf
  refine lv_iconst (v := 0) hx hb dJ7_fill_53178_0 (by decide) ?_
  refine lv_istore_n (lv' := [(2, .int (0 : Int32)), (0, .ref aA), (1, .int p1)]) hx hb dJ7_fill_53178_1 rfl hl (by decide) rfl (fun ls hl => ?_)
  refine lv_aload_n hx hb dJ7_fill_53178_2 rfl (lv_at hl 1 rfl) ?_
  refine va_alen (v := nI N) hx hb hK hP 0 0 rfl rfl rfl dJ7_fill_53178_3 ?_
  refine lv_topi (fun x4_2 ex4_2 => ?_)
  have hf := hf x4_2 ex4_2
  refine lv_istore_n (lv' := [(3, .int x4_2), (2, .int (0 : Int32)), (0, .ref aA), (1, .int p1)]) hx hb dJ7_fill_53178_4 rfl hl (by decide) rfl (fun ls hl => ?_)
  obtain ⟨n9, hf⟩ := hf
  exact L5  n9 p1 (0 : Int32) x4_2 f_row hf _ _ _ hP hD hS (lv_sub hl [2, 3, 1, 0] rfl)
abbrev rm_X6_size : Room := { frames := 0, cells := 0, slots := 0, locals := 0 }
set_option maxHeartbeats 4000000 in
set_option maxRecDepth 100000 in
theorem c_X6_size (l : Launch) (dC : Nat → ClassId) (dI : Nat → Nat → Nat) (cI cJ cZ cH : ClassId) (aH : Nat) (aE : Nat) (aEd : Nat) (aEf : Nat) (aEs : Nat) (aS : Nat) (aSd : Nat) (aSf : Nat) (aSg : Nat) (sz : Nat) (h_rate : Int32) (h_wrap : Int32) (e_days : Nat → Int32) (e_firsts : Nat → Int32) (e_seconds : Nat → Int32) (e_size : Int32) (s_days : Nat → Int32) (s_fars : Nat → Int32) (s_goods : Nat → Int32) {Q : Int32 → Prop} (hf : wp_X6_size e_size Q) : Met l yX6_size (.code yX6_size cX6_size 1 (some .int) :: GW) rm_X6_size (va_Pc [.ref aS] (PX (dC, dI) cI cJ cZ cH (wd_X6 cI cJ cZ cH aH aE aEd aEf aEs aS aSd aSf aSg h_rate h_wrap e_days e_firsts e_seconds e_size s_days s_fars s_goods) sz)) (va_Qi (fun (r : Int32) (_u : Unit) => Q r ) (fun u t => BX (dC, dI) (wd_X6 cI cJ cZ cH aH aE aEd aEf aEs aS aSd aSf aSg h_rate h_wrap e_days e_firsts e_seconds e_size s_days s_fars s_goods) (va_A (wd_X6 cI cJ cZ cH aH aE aEd aEf aEs aS aSd aSf aSg h_rate h_wrap e_days e_firsts e_seconds e_size s_days s_fars s_goods) sz) t) (va_A (wd_X6 cI cJ cZ cH aH aE aEd aEf aEs aS aSd aSf aSg h_rate h_wrap e_days e_firsts e_seconds e_size s_days s_fars s_goods) sz)) 0 0 (va_A (wd_X6 cI cJ cZ cH aH aE aEd aEf aEs aS aSd aSf aSg h_rate h_wrap e_days e_firsts e_seconds e_size s_days s_fars s_goods) sz) := by
  refine Met_i (w1 := fun u : Unit => wd_X6 cI cJ cZ cH aH aE aEd aEf aEs aS aSd aSf aSg h_rate h_wrap e_days e_firsts e_seconds e_size s_days s_fars s_goods) (by decide) (Nat.le_of_ble_eq_true rfl) ?_
  intro p e s m below meth c A Z ls hsz hx hb hml hown hts hmn hA hP hK hN hD hS hl hRet
  have hown : s.vm.findClass "MilesKept$Stands" = some m.cls := hown
  have hl : lv_has ls 1 [(0, .ref aS)] := hl
  unfold wp_X6_size at hf
  refine lv_aload_n hx hb dX6_size_0 rfl (lv_at hl 0 rfl) ?_
  refine va_get (D := (dC, dI)) (ci := 6) (v := .ref aH) (C := RX6) (T := TX6) (N := 4) hx hb hts inX6 hown hK hP 5 rfl rfl 3 (by decide) (hts _ kw191) (fun _ h9 => h9) rfl dX6_size_1 ?_
  refine va_get (D := (dC, dI)) (ci := 1) (v := .ref aE) (C := RX1) (T := TX1) (N := 3) hx hb hts inX1 hown hK hP 0 rfl rfl 0 (by decide) (hts _ kw62) (fun _ h9 => h9) rfl dX6_size_4 ?_
  refine va_get (D := (dC, dI)) (ci := 0) (v := .int e_size) (C := RX0) (T := TX0) (N := 4) hx hb hts inX0 hown hK hP 1 rfl rfl 3 (by decide) (hts _ kw49) (fun _ h9 => h9) rfl dX6_size_7 ?_
  exact hRet _ _ _ _ e_size () hf hP hD hS dX6_size_10
abbrev rm_X6_end : Room := { frames := 1, cells := 0, slots := 0, locals := 21 }
set_option maxHeartbeats 4000000 in
set_option maxRecDepth 100000 in
theorem c_X6_end (l : Launch) (dC : Nat → ClassId) (dI : Nat → Nat → Nat) (cI cJ cZ cH : ClassId) (aH : Nat) (aE : Nat) (aEd : Nat) (aEf : Nat) (aEs : Nat) (aS : Nat) (aSd : Nat) (aSf : Nat) (aSg : Nat) (sz : Nat) (h_rate : Int32) (h_wrap : Int32) (e_days : Nat → Int32) (e_firsts : Nat → Int32) (e_seconds : Nat → Int32) (e_size : Int32) (s_days : Nat → Int32) (s_fars : Nat → Int32) (s_goods : Nat → Int32) {Q : Int32 → Prop} (hf : wp_X6_end e_size Q) : Met l yX6_end (.code yX6_end cX6_end 1 (some .int) :: GW) rm_X6_end (va_Pc [.ref aS] (PX (dC, dI) cI cJ cZ cH (wd_X6 cI cJ cZ cH aH aE aEd aEf aEs aS aSd aSf aSg h_rate h_wrap e_days e_firsts e_seconds e_size s_days s_fars s_goods) sz)) (va_Qi (fun (r : Int32) (_u : Unit) => Q r ) (fun u t => BX (dC, dI) (wd_X6 cI cJ cZ cH aH aE aEd aEf aEs aS aSd aSf aSg h_rate h_wrap e_days e_firsts e_seconds e_size s_days s_fars s_goods) (va_A (wd_X6 cI cJ cZ cH aH aE aEd aEf aEs aS aSd aSf aSg h_rate h_wrap e_days e_firsts e_seconds e_size s_days s_fars s_goods) sz) t) (va_A (wd_X6 cI cJ cZ cH aH aE aEd aEf aEs aS aSd aSf aSg h_rate h_wrap e_days e_firsts e_seconds e_size s_days s_fars s_goods) sz)) 0 0 (va_A (wd_X6 cI cJ cZ cH aH aE aEd aEf aEs aS aSd aSf aSg h_rate h_wrap e_days e_firsts e_seconds e_size s_days s_fars s_goods) sz) := by
  refine Met_i (w1 := fun u : Unit => wd_X6 cI cJ cZ cH aH aE aEd aEf aEs aS aSd aSf aSg h_rate h_wrap e_days e_firsts e_seconds e_size s_days s_fars s_goods) (by decide) (Nat.le_of_ble_eq_true rfl) ?_
  intro p e s m below meth c A Z ls hsz hx hb hml hown hts hmn hA hP hK hN hD hS hl hRet
  have hown : s.vm.findClass "MilesKept$Stands" = some m.cls := hown
  have hl : lv_has ls 1 [(0, .ref aS)] := hl
  unfold wp_X6_end at hf
  refine lv_aload_n hx hb dX6_end_0 rfl (lv_at hl 0 rfl) ?_
  refine mk_i (w2 := fun u : Unit => wd_X6 cI cJ cZ cH aH aE aEd aEf aEs aS aSd aSf aSg h_rate h_wrap e_days e_firsts e_seconds e_size s_days s_fars s_goods) (wc := wd_X6 cI cJ cZ cH aH aE aEd aEf aEs aS aSd aSf aSg h_rate h_wrap e_days e_firsts e_seconds e_size s_days s_fars s_goods) hP hD hS hA [0, 1, 2, 3, 4, 5, 6, 7, 8] [] [0, 1, 2, 3, 4, 5, 6, 7, 8] rfl rfl rfl rfl (by decide) rfl (fun _ => rfl) (fun hPc hDc => va_runV (As := []) (rest := []) ⟨hx, hb, hml, hown, hts⟩ (c_X6_size l dC dI cI cJ cZ cH aH aE aEd aEf aEs aS aSd aSf aSg s.heap.size h_rate h_wrap e_days e_firsts e_seconds e_size s_days s_fars s_goods hf) (cwV 0 hts (gV kw297 kw298 kw299 kw7 kw300) rfl rfl rfl (by decide +kernel) ⟨Nat.le_of_ble_eq_true rfl, Nat.le_of_ble_eq_true rfl⟩) ⟨PX_blind, va_recv hK hPc (ci := 6) (q0 := 5) rfl rfl, PX_pre hPc hDc hK hN⟩ rfl rfl hl.1 rfl (lv_room (Nat.le_of_ble_eq_true rfl)) dX6_end_1 ⟨Nat.le_of_ble_eq_true rfl, Nat.le_of_ble_eq_true rfl⟩) (fun r1_1 u H locs hf hP hD hS => ?_)
  try dsimp only at hf
  have hP : va_P (dC, dI) vwCl (wd_X6 cI cJ cZ cH aH aE aEd aEf aEs aS aSd aSf aSg h_rate h_wrap e_days e_firsts e_seconds e_size s_days s_fars s_goods) H := hP
  have hD : va_D A (wd_X6 cI cJ cZ cH aH aE aEd aEf aEs aS aSd aSf aSg h_rate h_wrap e_days e_firsts e_seconds e_size s_days s_fars s_goods) := hD
  refine lv_iconst (v := 0) hx hb dX6_end_4 (by decide) ?_
  refine mk_i (w2 := fun u : Unit => wd_X6 cI cJ cZ cH aH aE aEd aEf aEs aS aSd aSf aSg h_rate h_wrap e_days e_firsts e_seconds e_size s_days s_fars s_goods) (wc := wd_E cI cJ cZ cH ) hP hD hS hA [] [0, 1, 2, 3, 4, 5, 6, 7, 8] [0, 1, 2, 3, 4, 5, 6, 7, 8] rfl rfl rfl rfl (by decide) rfl (fun _ => rfl) (fun hPc hDc => va_runS (As := [.int r1_1, .int (0 : Int32)]) (rest := []) ⟨hx, hb, hml, hown, hts⟩ (c_X6_standOf l dC dI cI cJ cZ cH H.size r1_1 (0 : Int32) hf) (va_cwS 2 hts (gS kw279 kw280 kw7 kw281) rfl rfl rfl (by decide +kernel) ⟨Nat.le_of_ble_eq_true rfl, Nat.le_of_ble_eq_true rfl⟩) ⟨PX_blind, PX_pre hPc hDc hK hN⟩ rfl rfl hl.1 rfl (lv_room (Nat.le_of_ble_eq_true rfl)) dX6_end_5 ⟨Nat.le_of_ble_eq_true rfl, Nat.le_of_ble_eq_true rfl⟩) (fun r5_2 u H locs hf hP hD hS => ?_)
  try dsimp only at hf
  have hP : va_P (dC, dI) vwCl (wd_X6 cI cJ cZ cH aH aE aEd aEf aEs aS aSd aSf aSg h_rate h_wrap e_days e_firsts e_seconds e_size s_days s_fars s_goods) H := hP
  have hD : va_D A (wd_X6 cI cJ cZ cH aH aE aEd aEf aEs aS aSd aSf aSg h_rate h_wrap e_days e_firsts e_seconds e_size s_days s_fars s_goods) := hD
  exact hRet _ _ _ _ r5_2 () hf hP hD hS dX6_end_8
abbrev rm_X6_readingOf : Room := { frames := 0, cells := 0, slots := 0, locals := 0 }
set_option maxHeartbeats 4000000 in
set_option maxRecDepth 100000 in
theorem c_X6_readingOf (l : Launch) (dC : Nat → ClassId) (dI : Nat → Nat → Nat) (cI cJ cZ cH : ClassId) (sz : Nat) (p0 : Int32) {Q : Int32 → Prop} (hf : wp_X6_readingOf p0 Q) : Met l yX6_readingOf (.code yX6_readingOf cX6_readingOf 1 (some .int) :: GW) rm_X6_readingOf (va_Pc [.int p0] (PX (dC, dI) cI cJ cZ cH (wd_E cI cJ cZ cH ) sz)) (va_Qi (fun (r : Int32) (_u : Unit) => Q r ) (fun u t => BX (dC, dI) (wd_E cI cJ cZ cH ) (va_A (wd_E cI cJ cZ cH ) sz) t) (va_A (wd_E cI cJ cZ cH ) sz)) 0 0 (va_A (wd_E cI cJ cZ cH ) sz) := by
  refine Met_i (w1 := fun u : Unit => wd_E cI cJ cZ cH ) (by decide) (Nat.le_of_ble_eq_true rfl) ?_
  intro p e s m below meth c A Z ls hsz hx hb hml hown hts hmn hA hP hK hN hD hS hl hRet
  have hown : s.vm.findClass "MilesKept$Stands" = some m.cls := hown
  have hl : lv_has ls 1 [(0, .int p0)] := hl
  unfold wp_X6_readingOf at hf
  refine lv_iload_n hx hb dX6_readingOf_0 rfl (lv_at hl 0 rfl) ?_
  refine lv_bipush (v := 8) hx hb dX6_readingOf_1 (by decide) ?_
  refine lv_idiv hx hb dX6_readingOf_3 (by decide) ?_
  refine lv_iconst (v := 1) hx hb dX6_readingOf_4 (by decide) ?_
  refine lv_isub hx hb dX6_readingOf_5 ?_
  exact hRet _ _ _ _ ((p0 / (8 : Int32)) - (1 : Int32)) () hf hP hD hS dX6_readingOf_6
abbrev rm_X6_mostGone : Room := { frames := 0, cells := 0, slots := 0, locals := 0 }
set_option maxHeartbeats 4000000 in
set_option maxRecDepth 100000 in
theorem c_X6_mostGone (l : Launch) (dC : Nat → ClassId) (dI : Nat → Nat → Nat) (cI cJ cZ cH : ClassId) (aH : Nat) (aE : Nat) (aEd : Nat) (aEf : Nat) (aEs : Nat) (aS : Nat) (aSd : Nat) (aSf : Nat) (aSg : Nat) (sz : Nat) (h_rate : Int32) (h_wrap : Int32) (e_days : Nat → Int32) (e_firsts : Nat → Int32) (e_seconds : Nat → Int32) (e_size : Int32) (s_days : Nat → Int32) (s_fars : Nat → Int32) (s_goods : Nat → Int32) (p1 : Int32) (p2 : Int32) {Q : Int32 → Prop} (hf : wp_X6_mostGone h_rate p1 p2 Q) : Met l yX6_mostGone (.code yX6_mostGone cX6_mostGone 3 (some .int) :: GW) rm_X6_mostGone (va_Pc [.ref aS, .int p1, .int p2] (PX (dC, dI) cI cJ cZ cH (wd_X6 cI cJ cZ cH aH aE aEd aEf aEs aS aSd aSf aSg h_rate h_wrap e_days e_firsts e_seconds e_size s_days s_fars s_goods) sz)) (va_Qi (fun (r : Int32) (_u : Unit) => Q r ) (fun u t => BX (dC, dI) (wd_X6 cI cJ cZ cH aH aE aEd aEf aEs aS aSd aSf aSg h_rate h_wrap e_days e_firsts e_seconds e_size s_days s_fars s_goods) (va_A (wd_X6 cI cJ cZ cH aH aE aEd aEf aEs aS aSd aSf aSg h_rate h_wrap e_days e_firsts e_seconds e_size s_days s_fars s_goods) sz) t) (va_A (wd_X6 cI cJ cZ cH aH aE aEd aEf aEs aS aSd aSf aSg h_rate h_wrap e_days e_firsts e_seconds e_size s_days s_fars s_goods) sz)) 0 0 (va_A (wd_X6 cI cJ cZ cH aH aE aEd aEf aEs aS aSd aSf aSg h_rate h_wrap e_days e_firsts e_seconds e_size s_days s_fars s_goods) sz) := by
  refine Met_i (w1 := fun u : Unit => wd_X6 cI cJ cZ cH aH aE aEd aEf aEs aS aSd aSf aSg h_rate h_wrap e_days e_firsts e_seconds e_size s_days s_fars s_goods) (by decide) (Nat.le_of_ble_eq_true rfl) ?_
  intro p e s m below meth c A Z ls hsz hx hb hml hown hts hmn hA hP hK hN hD hS hl hRet
  have hown : s.vm.findClass "MilesKept$Stands" = some m.cls := hown
  have hl : lv_has ls 3 [(0, .ref aS), (1, .int p1), (2, .int p2)] := hl
  unfold wp_X6_mostGone at hf
  refine lv_aload_n hx hb dX6_mostGone_0 rfl (lv_at hl 0 rfl) ?_
  refine va_get (D := (dC, dI)) (ci := 6) (v := .ref aH) (C := RX6) (T := TX6) (N := 4) hx hb hts inX6 hown hK hP 5 rfl rfl 3 (by decide) (hts _ kw191) (fun _ h9 => h9) rfl dX6_mostGone_1 ?_
  refine va_get (D := (dC, dI)) (ci := 1) (v := .int h_rate) (C := RX1) (T := TX1) (N := 3) hx hb hts inX1 hown hK hP 0 rfl rfl 1 (by decide) (hts _ kw67) (fun _ h9 => h9) rfl dX6_mostGone_4 ?_
  refine lv_iload_n hx hb dX6_mostGone_7 rfl (lv_at hl 2 rfl) ?_
  refine lv_iload_n hx hb dX6_mostGone_8 rfl (lv_at hl 1 rfl) ?_
  refine lv_isub hx hb dX6_mostGone_9 ?_
  refine lv_imul hx hb dX6_mostGone_10 ?_
  exact hRet _ _ _ _ (h_rate * (p2 - p1)) () hf hP hD hS dX6_mostGone_11
abbrev rm_X6_following : Room := { frames := 1, cells := 0, slots := 0, locals := 22 }
set_option maxHeartbeats 4000000 in
set_option maxRecDepth 100000 in
theorem c_X6_following (l : Launch) (dC : Nat → ClassId) (dI : Nat → Nat → Nat) (cI cJ cZ cH : ClassId) (aH : Nat) (aE : Nat) (aEd : Nat) (aEf : Nat) (aEs : Nat) (aS : Nat) (aSd : Nat) (aSf : Nat) (aSg : Nat) (sz : Nat) (h_rate : Int32) (h_wrap : Int32) (e_days : Nat → Int32) (e_firsts : Nat → Int32) (e_seconds : Nat → Int32) (e_size : Int32) (s_days : Nat → Int32) (s_fars : Nat → Int32) (s_goods : Nat → Int32) (p1 : Int32) (p2 : Int32) (p3 : Int32) {Q : Int32 → Prop} (hf : wp_X6_following h_rate s_days s_fars p1 p2 p3 Q) : Met l yX6_following (.code yX6_following cX6_following 7 (some .int) :: GW) rm_X6_following (va_Pc [.ref aS, .int p1, .int p2, .int p3] (PX (dC, dI) cI cJ cZ cH (wd_X6 cI cJ cZ cH aH aE aEd aEf aEs aS aSd aSf aSg h_rate h_wrap e_days e_firsts e_seconds e_size s_days s_fars s_goods) sz)) (va_Qi (fun (r : Int32) (_u : Unit) => Q r ) (fun u t => BX (dC, dI) (wd_X6 cI cJ cZ cH aH aE aEd aEf aEs aS aSd aSf aSg h_rate h_wrap e_days e_firsts e_seconds e_size s_days s_fars s_goods) (va_A (wd_X6 cI cJ cZ cH aH aE aEd aEf aEs aS aSd aSf aSg h_rate h_wrap e_days e_firsts e_seconds e_size s_days s_fars s_goods) sz) t) (va_A (wd_X6 cI cJ cZ cH aH aE aEd aEf aEs aS aSd aSf aSg h_rate h_wrap e_days e_firsts e_seconds e_size s_days s_fars s_goods) sz)) 0 0 (va_A (wd_X6 cI cJ cZ cH aH aE aEd aEf aEs aS aSd aSf aSg h_rate h_wrap e_days e_firsts e_seconds e_size s_days s_fars s_goods) sz) := by
  refine Met_i (w1 := fun u : Unit => wd_X6 cI cJ cZ cH aH aE aEd aEf aEs aS aSd aSf aSg h_rate h_wrap e_days e_firsts e_seconds e_size s_days s_fars s_goods) (by decide) (Nat.le_of_ble_eq_true rfl) ?_
  intro p e s m below meth c A Z ls hsz hx hb hml hown hts hmn hA hP hK hN hD hS hl hRet
  have hown : s.vm.findClass "MilesKept$Stands" = some m.cls := hown
  have hl : lv_has ls 7 [(0, .ref aS), (1, .int p1), (2, .int p2), (3, .int p3)] := hl
  have J79 : ∀ (K17 : Int32 → Int32 → Int32 → Prop) (hK17 : ∀ (v1 : Int32) (v4 : Int32) (v5 : Int32), K17 v1 v4 v5 → ∀ (H : Heap) (locs : List Loc) (ls : Array Slot), va_P (dC, dI) vwCl (wd_X6 cI cJ cZ cH aH aE aEd aEf aEs aS aSd aSf aSg h_rate h_wrap e_days e_firsts e_seconds e_size s_days s_fars s_goods) H → va_D A (wd_X6 cI cJ cZ cH aH aE aEd aEf aEs aS aSd aSf aSg h_rate h_wrap e_days e_firsts e_seconds e_size s_days s_fars s_goods) → va_S A s.heap H locs → lv_has ls 7 [(0, .ref aS), (1, .int v1), (4, .int v4), (5, .int v5)] → W p l e rm_X6_following s m ([Value.ref aS, Value.int p1, Value.int p2, Value.int p3] : List Value).toArray below meth c H locs 0 0 Z (F0 m 17 ls [])), ∀ (k0 : Int32), wp_X6_following_b79 h_rate s_days s_fars Q K17 k0 → ∀ (H : Heap) (locs : List Loc) (ls : Array Slot), va_P (dC, dI) vwCl (wd_X6 cI cJ cZ cH aH aE aEd aEf aEs aS aSd aSf aSg h_rate h_wrap e_days e_firsts e_seconds e_size s_days s_fars s_goods) H → va_D A (wd_X6 cI cJ cZ cH aH aE aEd aEf aEs aS aSd aSf aSg h_rate h_wrap e_days e_firsts e_seconds e_size s_days s_fars s_goods) → va_S A s.heap H locs → lv_has ls 7 [] → W p l e rm_X6_following s m ([Value.ref aS, Value.int p1, Value.int p2, Value.int p3] : List Value).toArray below meth c H locs 0 0 Z (F0 m 79 ls [.int k0]) := by
    intro K17 hK17 k0 hf H locs ls hP hD hS hl
    unfold wp_X6_following_b79 at hf
    exact hRet _ _ _ _ k0 () hf hP hD hS dX6_following_79
  have L17 : ∀ (n : Nat) (v1 : Int32) (v4 : Int32) (v5 : Int32), wp_X6_following_h17 h_rate s_days s_fars Q  n v1 v4 v5 → ∀ (H : Heap) (locs : List Loc) (ls : Array Slot), va_P (dC, dI) vwCl (wd_X6 cI cJ cZ cH aH aE aEd aEf aEs aS aSd aSf aSg h_rate h_wrap e_days e_firsts e_seconds e_size s_days s_fars s_goods) H → va_D A (wd_X6 cI cJ cZ cH aH aE aEd aEf aEs aS aSd aSf aSg h_rate h_wrap e_days e_firsts e_seconds e_size s_days s_fars s_goods) → va_S A s.heap H locs → lv_has ls 7 [(0, .ref aS), (1, .int v1), (4, .int v4), (5, .int v5)] → W p l e rm_X6_following s m ([Value.ref aS, Value.int p1, Value.int p2, Value.int p3] : List Value).toArray below meth c H locs 0 0 Z (F0 m 17 ls []) := by
    intro n
    induction n with
    | zero =>
      intro v1 v4 v5 hf
      exact False.elim hf
    | succ n hK17 =>
      intro v1 v4 v5 hf H locs ls hP hD hS hl
      simp only [wp_X6_following_h17] at hf
      refine lv_iload hx hb dX6_following_17 (lv_at hl 3 rfl) ?_
      refine lv_iconst (v := 4) hx hb dX6_following_19 (by decide) ?_
      refine lv_icmp_ge (tgt := 86) hx hb dX6_following_20 (by decide) (fun c20 => ?_) (fun c20 => ?_)
      · have hf := hf.1 c20
        refine lv_iconst (v := (-1)) hx hb dX6_following_86 (by decide) ?_
        exact hRet _ _ _ _ (-1 : Int32) () hf hP hD hS dX6_following_87
      · have hf := hf.2 c20
        refine lv_aload_n hx hb dX6_following_23 rfl (lv_at hl 0 rfl) ?_
        refine va_get (D := (dC, dI)) (ci := 6) (v := .ref aSf) (C := RX6) (T := TX6) (N := 4) hx hb hts inX6 hown hK hP 5 rfl rfl 1 (by decide) (hts _ kw186) (fun _ h9 => h9) rfl dX6_following_24 ?_
        refine lv_iload hx hb dX6_following_27 (lv_at hl 2 rfl) ?_
        refine lv_iload hx hb dX6_following_29 (lv_at hl 3 rfl) ?_
        refine lv_iadd hx hb dX6_following_31 ?_
        obtain ⟨hin, hf⟩ := hf
        refine va_iald hx hb hK hP 7 0 rfl rfl hin dX6_following_32 ?_
        refine lv_aload_n hx hb dX6_following_33 rfl (lv_at hl 0 rfl) ?_
        refine va_get (D := (dC, dI)) (ci := 6) (v := .ref aSf) (C := RX6) (T := TX6) (N := 4) hx hb hts inX6 hown hK hP 5 rfl rfl 1 (by decide) (hts _ kw186) (fun _ h9 => h9) rfl dX6_following_34 ?_
        refine lv_iload_n hx hb dX6_following_37 rfl (lv_at hl 1 rfl) ?_
        obtain ⟨hin, hf⟩ := hf
        refine va_iald hx hb hK hP 7 0 rfl rfl hin dX6_following_38 ?_
        refine lv_isub hx hb dX6_following_39 ?_
        refine lv_topi (fun x40_1 ex40_1 => ?_)
        have hf := hf x40_1 ex40_1
        refine lv_istore (lv' := [(6, .int x40_1), (0, .ref aS), (1, .int v1), (4, .int v4), (5, .int v5)]) hx hb dX6_following_40 hl (by decide) rfl (fun ls hl => ?_)
        refine lv_iload hx hb dX6_following_42 (lv_at hl 0 rfl) ?_
        refine lv_if_lt (tgt := 80) hx hb dX6_following_44 (by decide) (fun c44 => ?_) (fun c44 => ?_)
        · have hf := hf.1 c44
          obtain ⟨x80_2, ex80_2⟩ : ∃ y : Int32, y = v5 + 1 := ⟨_, rfl⟩
          have hf := hf x80_2 ex80_2
          refine lv_iinc (v := x80_2) (lv' := [(5, .int x80_2), (6, .int x40_1), (0, .ref aS), (1, .int v1), (4, .int v4)]) hx hb dX6_following_80 hl (k := 4) rfl (by rw [ex80_2]; rfl) (by decide) rfl (fun ls hl => ?_)
          refine lv_goto (tgt := 17) hx hb dX6_following_83 (by decide) ?_
          exact hK17 v1 v4 x80_2 hf _ _ _ hP hD hS (lv_sub hl [2, 3, 4, 0] rfl)
        · have hf := hf.2 c44
          refine lv_iload hx hb dX6_following_47 (lv_at hl 0 rfl) ?_
          refine lv_aload_n hx hb dX6_following_49 rfl (lv_at hl 1 rfl) ?_
          refine lv_aload_n hx hb dX6_following_50 rfl (lv_at hl 1 rfl) ?_
          refine va_get (D := (dC, dI)) (ci := 6) (v := .ref aSd) (C := RX6) (T := TX6) (N := 4) hx hb hts inX6 hown hK hP 5 rfl rfl 0 (by decide) (hts _ kw184) (fun _ h9 => h9) rfl dX6_following_51 ?_
          refine lv_iload_n hx hb dX6_following_54 rfl (lv_at hl 2 rfl) ?_
          obtain ⟨hin, hf⟩ := hf
          refine va_iald hx hb hK hP 6 0 rfl rfl hin dX6_following_55 ?_
          refine lv_aload_n hx hb dX6_following_56 rfl (lv_at hl 1 rfl) ?_
          refine va_get (D := (dC, dI)) (ci := 6) (v := .ref aSd) (C := RX6) (T := TX6) (N := 4) hx hb hts inX6 hown hK hP 5 rfl rfl 0 (by decide) (hts _ kw184) (fun _ h9 => h9) rfl dX6_following_57 ?_
          refine lv_iload hx hb dX6_following_60 (lv_at hl 3 rfl) ?_
          obtain ⟨hin, hf⟩ := hf
          refine va_iald hx hb hK hP 6 0 rfl rfl hin dX6_following_62 ?_
          refine mk_i (w2 := fun u : Unit => wd_X6 cI cJ cZ cH aH aE aEd aEf aEs aS aSd aSf aSg h_rate h_wrap e_days e_firsts e_seconds e_size s_days s_fars s_goods) (wc := wd_X6 cI cJ cZ cH aH aE aEd aEf aEs aS aSd aSf aSg h_rate h_wrap e_days e_firsts e_seconds e_size s_days s_fars s_goods) hP hD hS hA [0, 1, 2, 3, 4, 5, 6, 7, 8] [] [0, 1, 2, 3, 4, 5, 6, 7, 8] rfl rfl rfl rfl (by decide) rfl (fun _ => rfl) (fun hPc hDc => va_runV (As := [.int (s_days v1.toNatClampNeg), .int (s_days v4.toNatClampNeg)]) (rest := [.int x40_1]) ⟨hx, hb, hml, hown, hts⟩ (c_X6_mostGone l dC dI cI cJ cZ cH aH aE aEd aEf aEs aS aSd aSf aSg H.size h_rate h_wrap e_days e_firsts e_seconds e_size s_days s_fars s_goods (s_days v1.toNatClampNeg) (s_days v4.toNatClampNeg) hf) (cwV 2 hts (gV kw313 kw314 kw315 kw7 kw316) rfl rfl rfl (by decide +kernel) ⟨Nat.le_of_ble_eq_true rfl, Nat.le_of_ble_eq_true rfl⟩) ⟨PX_blind, va_recv hK hPc (ci := 6) (q0 := 5) rfl rfl, PX_pre hPc hDc hK hN⟩ rfl rfl hl.1 rfl (lv_room (Nat.le_of_ble_eq_true rfl)) dX6_following_63 ⟨Nat.le_of_ble_eq_true rfl, Nat.le_of_ble_eq_true rfl⟩) (fun r63_3 u H locs hf hP hD hS => ?_)
          try dsimp only at hf
          have hP : va_P (dC, dI) vwCl (wd_X6 cI cJ cZ cH aH aE aEd aEf aEs aS aSd aSf aSg h_rate h_wrap e_days e_firsts e_seconds e_size s_days s_fars s_goods) H := hP
          have hD : va_D A (wd_X6 cI cJ cZ cH aH aE aEd aEf aEs aS aSd aSf aSg h_rate h_wrap e_days e_firsts e_seconds e_size s_days s_fars s_goods) := hD
          refine lv_icmp_gt (tgt := 77) hx hb dX6_following_66 (by decide) (fun c66 => ?_) (fun c66 => ?_)
          · have hf := hf.1 c66
            refine lv_bipush (v := (-2)) hx hb dX6_following_77 (by decide) ?_
            exact J79 _ hK17 (-2 : Int32) hf _ _ _ hP hD hS (lv_sub hl [] rfl)
          · have hf := hf.2 c66
            refine lv_iload hx hb dX6_following_69 (lv_at hl 3 rfl) ?_
            refine lv_iload hx hb dX6_following_71 (lv_at hl 4 rfl) ?_
            refine lv_iadd hx hb dX6_following_73 ?_
            refine lv_goto (tgt := 79) hx hb dX6_following_74 (by decide) ?_
            exact J79 _ hK17 (v4 + v5) hf _ _ _ hP hD hS (lv_sub hl [] rfl)
  unfold wp_X6_following at hf
  refine lv_iload_n hx hb dX6_following_0 rfl (lv_at hl 2 rfl) ?_
  refine lv_iload_n hx hb dX6_following_1 rfl (lv_at hl 3 rfl) ?_
  refine mk_i (w2 := fun u : Unit => wd_X6 cI cJ cZ cH aH aE aEd aEf aEs aS aSd aSf aSg h_rate h_wrap e_days e_firsts e_seconds e_size s_days s_fars s_goods) (wc := wd_E cI cJ cZ cH ) hP hD hS hA [] [0, 1, 2, 3, 4, 5, 6, 7, 8] [0, 1, 2, 3, 4, 5, 6, 7, 8] rfl rfl rfl rfl (by decide) rfl (fun _ => rfl) (fun hPc hDc => va_runS (As := [.int p2, .int p3]) (rest := []) ⟨hx, hb, hml, hown, hts⟩ (c_X6_standOf l dC dI cI cJ cZ cH s.heap.size p2 p3 hf) (va_cwS 2 hts (gS kw279 kw280 kw7 kw281) rfl rfl rfl (by decide +kernel) ⟨Nat.le_of_ble_eq_true rfl, Nat.le_of_ble_eq_true rfl⟩) ⟨PX_blind, PX_pre hPc hDc hK hN⟩ rfl rfl hl.1 rfl (lv_room (Nat.le_of_ble_eq_true rfl)) dX6_following_2 ⟨Nat.le_of_ble_eq_true rfl, Nat.le_of_ble_eq_true rfl⟩) (fun r2_4 u H locs hf hP hD hS => ?_)
  try dsimp only at hf
  have hP : va_P (dC, dI) vwCl (wd_X6 cI cJ cZ cH aH aE aEd aEf aEs aS aSd aSf aSg h_rate h_wrap e_days e_firsts e_seconds e_size s_days s_fars s_goods) H := hP
  have hD : va_D A (wd_X6 cI cJ cZ cH aH aE aEd aEf aEs aS aSd aSf aSg h_rate h_wrap e_days e_firsts e_seconds e_size s_days s_fars s_goods) := hD
  refine lv_istore (lv' := [(4, .int r2_4), (0, .ref aS), (1, .int p1), (2, .int p2), (3, .int p3)]) hx hb dX6_following_5 hl (by decide) rfl (fun ls hl => ?_)
  refine lv_iload_n hx hb dX6_following_7 rfl (lv_at hl 2 rfl) ?_
  refine lv_if_ne (tgt := 14) hx hb dX6_following_8 (by decide) (fun c8 => ?_) (fun c8 => ?_)
  · have hf := hf.1 c8
    refine lv_iconst (v := 0) hx hb dX6_following_14 (by decide) ?_
    refine lv_istore (lv' := [(5, .int (0 : Int32)), (4, .int r2_4), (0, .ref aS), (1, .int p1), (2, .int p2), (3, .int p3)]) hx hb dX6_following_15 hl (by decide) rfl (fun ls hl => ?_)
    obtain ⟨n9, hf⟩ := hf
    exact L17  n9 p1 r2_4 (0 : Int32) hf _ _ _ hP hD hS (lv_sub hl [2, 3, 1, 0] rfl)
  · have hf := hf.2 c8
    refine lv_iload hx hb dX6_following_11 (lv_at hl 0 rfl) ?_
    exact hRet _ _ _ _ r2_4 () hf hP hD hS dX6_following_13
abbrev rm_X5_spread : Room := { frames := 2, cells := 0, slots := 0, locals := 48 }
set_option maxHeartbeats 4000000 in
set_option maxRecDepth 100000 in
theorem c_X5_spread (l : Launch) (dC : Nat → ClassId) (dI : Nat → Nat → Nat) (cI cJ cZ cH : ClassId) (aH : Nat) (aE : Nat) (aEd : Nat) (aEf : Nat) (aEs : Nat) (aS : Nat) (aSd : Nat) (aSf : Nat) (aSg : Nat) (aR : Nat) (aRu : Nat) (aRr : Nat) (aRw : Nat) (aRe : Nat) (aRa : Nat) (aRf : Nat) (aRs : Nat) (sz : Nat) (h_rate : Int32) (h_wrap : Int32) (e_days : Nat → Int32) (e_firsts : Nat → Int32) (e_seconds : Nat → Int32) (e_size : Int32) (s_days : Nat → Int32) (s_fars : Nat → Int32) (s_goods : Nat → Int32) (r_until : Nat → Int32) (r_rest : Nat → Int32) (r_ways : Nat → Int64) (r_inEach : Nat → Int32) (r_inAny : Nat → Int32) (r_firsts : Nat → Int32) (r_reasons : Nat → Int32) (r_keptInFirst : Int32) (r_swapAt : Int32) (r_swapGood : Int32) (p1 : Int32) {Q : (Nat → Int32) → Prop} (hf : wp_X5_spread h_rate e_size s_days s_fars s_goods r_until p1 Q) : Met l yX5_spread (.code yX5_spread cX5_spread 5 none :: GW) rm_X5_spread (va_Pc [.ref aR, .int p1] (PX (dC, dI) cI cJ cZ cH (wd_X5 cI cJ cZ cH aH aE aEd aEf aEs aS aSd aSf aSg aR aRu aRr aRw aRe aRa aRf aRs h_rate h_wrap e_days e_firsts e_seconds e_size s_days s_fars s_goods r_until r_rest r_ways r_inEach r_inAny r_firsts r_reasons r_keptInFirst r_swapAt r_swapGood) sz)) (va_Qv (fun (u : (Nat → Int32)) => Q u) (fun u t => BX (dC, dI) (wd_X5 cI cJ cZ cH aH aE aEd aEf aEs aS aSd aSf aSg aR aRu aRr aRw aRe aRa aRf aRs h_rate h_wrap e_days e_firsts e_seconds e_size s_days s_fars s_goods u r_rest r_ways r_inEach r_inAny r_firsts r_reasons r_keptInFirst r_swapAt r_swapGood) (va_A (wd_X5 cI cJ cZ cH aH aE aEd aEf aEs aS aSd aSf aSg aR aRu aRr aRw aRe aRa aRf aRs h_rate h_wrap e_days e_firsts e_seconds e_size s_days s_fars s_goods r_until r_rest r_ways r_inEach r_inAny r_firsts r_reasons r_keptInFirst r_swapAt r_swapGood) sz) t) (va_A (wd_X5 cI cJ cZ cH aH aE aEd aEf aEs aS aSd aSf aSg aR aRu aRr aRw aRe aRa aRf aRs h_rate h_wrap e_days e_firsts e_seconds e_size s_days s_fars s_goods r_until r_rest r_ways r_inEach r_inAny r_firsts r_reasons r_keptInFirst r_swapAt r_swapGood) sz)) 0 0 (va_A (wd_X5 cI cJ cZ cH aH aE aEd aEf aEs aS aSd aSf aSg aR aRu aRr aRw aRe aRa aRf aRs h_rate h_wrap e_days e_firsts e_seconds e_size s_days s_fars s_goods r_until r_rest r_ways r_inEach r_inAny r_firsts r_reasons r_keptInFirst r_swapAt r_swapGood) sz) := by
  refine Met_v (w1 := fun u : (Nat → Int32) => wd_X5 cI cJ cZ cH aH aE aEd aEf aEs aS aSd aSf aSg aR aRu aRr aRw aRe aRa aRf aRs h_rate h_wrap e_days e_firsts e_seconds e_size s_days s_fars s_goods u r_rest r_ways r_inEach r_inAny r_firsts r_reasons r_keptInFirst r_swapAt r_swapGood) (by decide) (Nat.le_of_ble_eq_true rfl) ?_
  intro p e s m below meth c A Z ls hsz hx hb hml hown hts hmn hA hP hK hN hD hS hl hRet
  have hown : s.vm.findClass "MilesKept$Repairs" = some m.cls := hown
  have hl : lv_has ls 5 [(0, .ref aR), (1, .int p1)] := hl
  have J76 : ∀ (K7 : Int32 → Int32 → (Nat → Int32) → Prop) (hK7 : ∀ (v1 : Int32) (v2 : Int32) (r_until : Nat → Int32), K7 v1 v2 r_until → ∀ (H : Heap) (locs : List Loc) (ls : Array Slot), va_P (dC, dI) vwCl (wd_X5 cI cJ cZ cH aH aE aEd aEf aEs aS aSd aSf aSg aR aRu aRr aRw aRe aRa aRf aRs h_rate h_wrap e_days e_firsts e_seconds e_size s_days s_fars s_goods r_until r_rest r_ways r_inEach r_inAny r_firsts r_reasons r_keptInFirst r_swapAt r_swapGood) H → va_D A (wd_X5 cI cJ cZ cH aH aE aEd aEf aEs aS aSd aSf aSg aR aRu aRr aRw aRe aRa aRf aRs h_rate h_wrap e_days e_firsts e_seconds e_size s_days s_fars s_goods r_until r_rest r_ways r_inEach r_inAny r_firsts r_reasons r_keptInFirst r_swapAt r_swapGood) → va_S A s.heap H locs → lv_has ls 5 [(0, .ref aR), (1, .int v1), (2, .int v2)] → W p l e rm_X5_spread s m ([Value.ref aR, Value.int p1] : List Value).toArray below meth c H locs 0 0 Z (F0 m 7 ls [])) (K20 : Int32 → Int32 → Int32 → (Nat → Int32) → Prop) (hK20 : ∀ (v1 : Int32) (v2 : Int32) (v3 : Int32) (r_until : Nat → Int32), K20 v1 v2 v3 r_until → ∀ (H : Heap) (locs : List Loc) (ls : Array Slot), va_P (dC, dI) vwCl (wd_X5 cI cJ cZ cH aH aE aEd aEf aEs aS aSd aSf aSg aR aRu aRr aRw aRe aRa aRf aRs h_rate h_wrap e_days e_firsts e_seconds e_size s_days s_fars s_goods r_until r_rest r_ways r_inEach r_inAny r_firsts r_reasons r_keptInFirst r_swapAt r_swapGood) H → va_D A (wd_X5 cI cJ cZ cH aH aE aEd aEf aEs aS aSd aSf aSg aR aRu aRr aRw aRe aRa aRf aRs h_rate h_wrap e_days e_firsts e_seconds e_size s_days s_fars s_goods r_until r_rest r_ways r_inEach r_inAny r_firsts r_reasons r_keptInFirst r_swapAt r_swapGood) → va_S A s.heap H locs → lv_has ls 5 [(0, .ref aR), (1, .int v1), (2, .int v2), (3, .int v3)] → W p l e rm_X5_spread s m ([Value.ref aR, Value.int p1] : List Value).toArray below meth c H locs 0 0 Z (F0 m 20 ls [])), ∀ (v1 : Int32) (v2 : Int32) (v3 : Int32) (r_until : Nat → Int32), wp_X5_spread_b76 h_rate e_size s_days s_fars s_goods Q K7 K20 v1 v2 v3 r_until → ∀ (H : Heap) (locs : List Loc) (ls : Array Slot), va_P (dC, dI) vwCl (wd_X5 cI cJ cZ cH aH aE aEd aEf aEs aS aSd aSf aSg aR aRu aRr aRw aRe aRa aRf aRs h_rate h_wrap e_days e_firsts e_seconds e_size s_days s_fars s_goods r_until r_rest r_ways r_inEach r_inAny r_firsts r_reasons r_keptInFirst r_swapAt r_swapGood) H → va_D A (wd_X5 cI cJ cZ cH aH aE aEd aEf aEs aS aSd aSf aSg aR aRu aRr aRw aRe aRa aRf aRs h_rate h_wrap e_days e_firsts e_seconds e_size s_days s_fars s_goods r_until r_rest r_ways r_inEach r_inAny r_firsts r_reasons r_keptInFirst r_swapAt r_swapGood) → va_S A s.heap H locs → lv_has ls 5 [(0, .ref aR), (1, .int v1), (2, .int v2), (3, .int v3)] → W p l e rm_X5_spread s m ([Value.ref aR, Value.int p1] : List Value).toArray below meth c H locs 0 0 Z (F0 m 76 ls []) := by
    intro K7 hK7 K20 hK20 v1 v2 v3 r_until hf H locs ls hP hD hS hl
    unfold wp_X5_spread_b76 at hf
    obtain ⟨x76_1, ex76_1⟩ : ∃ y : Int32, y = v3 + 1 := ⟨_, rfl⟩
    have hf := hf x76_1 ex76_1
    refine lv_iinc (v := x76_1) (lv' := [(3, .int x76_1), (0, .ref aR), (1, .int v1), (2, .int v2)]) hx hb dX5_spread_76 hl (k := 3) rfl (by rw [ex76_1]; rfl) (by decide) rfl (fun ls hl => ?_)
    refine lv_goto (tgt := 20) hx hb dX5_spread_79 (by decide) ?_
    exact hK20 v1 v2 x76_1 r_until hf _ _ _ hP hD hS (lv_sub hl [1, 2, 3, 0] rfl)
  have L20 : ∀ (K7 : Int32 → Int32 → (Nat → Int32) → Prop) (hK7 : ∀ (v1 : Int32) (v2 : Int32) (r_until : Nat → Int32), K7 v1 v2 r_until → ∀ (H : Heap) (locs : List Loc) (ls : Array Slot), va_P (dC, dI) vwCl (wd_X5 cI cJ cZ cH aH aE aEd aEf aEs aS aSd aSf aSg aR aRu aRr aRw aRe aRa aRf aRs h_rate h_wrap e_days e_firsts e_seconds e_size s_days s_fars s_goods r_until r_rest r_ways r_inEach r_inAny r_firsts r_reasons r_keptInFirst r_swapAt r_swapGood) H → va_D A (wd_X5 cI cJ cZ cH aH aE aEd aEf aEs aS aSd aSf aSg aR aRu aRr aRw aRe aRa aRf aRs h_rate h_wrap e_days e_firsts e_seconds e_size s_days s_fars s_goods r_until r_rest r_ways r_inEach r_inAny r_firsts r_reasons r_keptInFirst r_swapAt r_swapGood) → va_S A s.heap H locs → lv_has ls 5 [(0, .ref aR), (1, .int v1), (2, .int v2)] → W p l e rm_X5_spread s m ([Value.ref aR, Value.int p1] : List Value).toArray below meth c H locs 0 0 Z (F0 m 7 ls [])), ∀ (n : Nat) (v1 : Int32) (v2 : Int32) (v3 : Int32) (r_until : Nat → Int32), wp_X5_spread_h20 h_rate e_size s_days s_fars s_goods Q K7 n v1 v2 v3 r_until → ∀ (H : Heap) (locs : List Loc) (ls : Array Slot), va_P (dC, dI) vwCl (wd_X5 cI cJ cZ cH aH aE aEd aEf aEs aS aSd aSf aSg aR aRu aRr aRw aRe aRa aRf aRs h_rate h_wrap e_days e_firsts e_seconds e_size s_days s_fars s_goods r_until r_rest r_ways r_inEach r_inAny r_firsts r_reasons r_keptInFirst r_swapAt r_swapGood) H → va_D A (wd_X5 cI cJ cZ cH aH aE aEd aEf aEs aS aSd aSf aSg aR aRu aRr aRw aRe aRa aRf aRs h_rate h_wrap e_days e_firsts e_seconds e_size s_days s_fars s_goods r_until r_rest r_ways r_inEach r_inAny r_firsts r_reasons r_keptInFirst r_swapAt r_swapGood) → va_S A s.heap H locs → lv_has ls 5 [(0, .ref aR), (1, .int v1), (2, .int v2), (3, .int v3)] → W p l e rm_X5_spread s m ([Value.ref aR, Value.int p1] : List Value).toArray below meth c H locs 0 0 Z (F0 m 20 ls []) := by
    intro K7 hK7
    intro n
    induction n with
    | zero =>
      intro v1 v2 v3 r_until hf
      exact False.elim hf
    | succ n hK20 =>
      intro v1 v2 v3 r_until hf H locs ls hP hD hS hl
      simp only [wp_X5_spread_h20] at hf
      refine lv_iload_n hx hb dX5_spread_20 rfl (lv_at hl 3 rfl) ?_
      refine lv_iconst (v := 2) hx hb dX5_spread_21 (by decide) ?_
      refine lv_icmp_ge (tgt := 82) hx hb dX5_spread_22 (by decide) (fun c22 => ?_) (fun c22 => ?_)
      · have hf := hf.1 c22
        obtain ⟨x82_2, ex82_2⟩ : ∃ y : Int32, y = v2 + 1 := ⟨_, rfl⟩
        have hf := hf x82_2 ex82_2
        refine lv_iinc (v := x82_2) (lv' := [(2, .int x82_2), (0, .ref aR), (1, .int v1), (3, .int v3)]) hx hb dX5_spread_82 hl (k := 2) rfl (by rw [ex82_2]; rfl) (by decide) rfl (fun ls hl => ?_)
        refine lv_goto (tgt := 7) hx hb dX5_spread_85 (by decide) ?_
        exact hK7 v1 x82_2 r_until hf _ _ _ hP hD hS (lv_sub hl [1, 2, 0] rfl)
      · have hf := hf.2 c22
        refine lv_aload_n hx hb dX5_spread_25 rfl (lv_at hl 0 rfl) ?_
        refine va_get (D := (dC, dI)) (ci := 5) (v := .ref aS) (C := RX5) (T := TX5) (N := 11) hx hb hts inX5 hown hK hP 9 rfl rfl 0 (by decide) (hts _ kw207) (fun _ h9 => h9) rfl dX5_spread_26 ?_
        refine lv_iload_n hx hb dX5_spread_29 rfl (lv_at hl 1 rfl) ?_
        refine lv_iload_n hx hb dX5_spread_30 rfl (lv_at hl 2 rfl) ?_
        refine lv_iload_n hx hb dX5_spread_31 rfl (lv_at hl 3 rfl) ?_
        refine mk_i (w2 := fun u : Unit => wd_X5 cI cJ cZ cH aH aE aEd aEf aEs aS aSd aSf aSg aR aRu aRr aRw aRe aRa aRf aRs h_rate h_wrap e_days e_firsts e_seconds e_size s_days s_fars s_goods r_until r_rest r_ways r_inEach r_inAny r_firsts r_reasons r_keptInFirst r_swapAt r_swapGood) (wc := wd_X6 cI cJ cZ cH aH aE aEd aEf aEs aS aSd aSf aSg h_rate h_wrap e_days e_firsts e_seconds e_size s_days s_fars s_goods) hP hD hS hA [0, 1, 2, 3, 4, 5, 6, 7, 8] [9, 10, 11, 12, 13, 14, 15, 16] [8, 9, 10, 11, 12, 13, 14, 15, 16, 0, 1, 2, 3, 4, 5, 6, 7] rfl rfl rfl rfl (by decide) rfl (fun _ => rfl) (fun hPc hDc => va_runV (As := [.int v1, .int v2, .int v3]) (rest := []) ⟨hx, hb, hml, hown, hts⟩ (c_X6_following l dC dI cI cJ cZ cH aH aE aEd aEf aEs aS aSd aSf aSg H.size h_rate h_wrap e_days e_firsts e_seconds e_size s_days s_fars s_goods v1 v2 v3 hf) (cwV 3 hts (gV kw309 kw310 kw311 kw7 kw312) rfl rfl rfl (by decide +kernel) ⟨Nat.le_of_ble_eq_true rfl, Nat.le_of_ble_eq_true rfl⟩) ⟨PX_blind, va_recv hK hPc (ci := 6) (q0 := 5) rfl rfl, PX_pre hPc hDc hK hN⟩ rfl rfl hl.1 rfl (lv_room (Nat.le_of_ble_eq_true rfl)) dX5_spread_32 ⟨Nat.le_of_ble_eq_true rfl, Nat.le_of_ble_eq_true rfl⟩) (fun r32_3 u H locs hf hP hD hS => ?_)
        try dsimp only at hf
        have hP : va_P (dC, dI) vwCl (wd_X5 cI cJ cZ cH aH aE aEd aEf aEs aS aSd aSf aSg aR aRu aRr aRw aRe aRa aRf aRs h_rate h_wrap e_days e_firsts e_seconds e_size s_days s_fars s_goods r_until r_rest r_ways r_inEach r_inAny r_firsts r_reasons r_keptInFirst r_swapAt r_swapGood) H := hP
        have hD : va_D A (wd_X5 cI cJ cZ cH aH aE aEd aEf aEs aS aSd aSf aSg aR aRu aRr aRw aRe aRa aRf aRs h_rate h_wrap e_days e_firsts e_seconds e_size s_days s_fars s_goods r_until r_rest r_ways r_inEach r_inAny r_firsts r_reasons r_keptInFirst r_swapAt r_swapGood) := hD
        refine lv_istore (lv' := [(4, .int r32_3), (0, .ref aR), (1, .int v1), (2, .int v2), (3, .int v3)]) hx hb dX5_spread_35 hl (by decide) rfl (fun ls hl => ?_)
        refine lv_iload hx hb dX5_spread_37 (lv_at hl 0 rfl) ?_
        refine lv_if_lt (tgt := 76) hx hb dX5_spread_39 (by decide) (fun c39 => ?_) (fun c39 => ?_)
        · have hf := hf.1 c39
          exact J76 _ hK7 _ hK20 v1 v2 v3 r_until hf _ _ _ hP hD hS (lv_sub hl [1, 2, 3, 4] rfl)
        · have hf := hf.2 c39
          refine lv_aload_n hx hb dX5_spread_42 rfl (lv_at hl 1 rfl) ?_
          refine va_get (D := (dC, dI)) (ci := 5) (v := .ref aRu) (C := RX5) (T := TX5) (N := 11) hx hb hts inX5 hown hK hP 9 rfl rfl 1 (by decide) (hts _ kw208) (fun _ h9 => h9) rfl dX5_spread_43 ?_
          refine lv_iload hx hb dX5_spread_46 (lv_at hl 0 rfl) ?_
          refine lv_aload_n hx hb dX5_spread_48 rfl (lv_at hl 1 rfl) ?_
          refine va_get (D := (dC, dI)) (ci := 5) (v := .ref aRu) (C := RX5) (T := TX5) (N := 11) hx hb hts inX5 hown hK hP 9 rfl rfl 1 (by decide) (hts _ kw208) (fun _ h9 => h9) rfl dX5_spread_49 ?_
          refine lv_iload hx hb dX5_spread_52 (lv_at hl 0 rfl) ?_
          obtain ⟨hin, hf⟩ := hf
          refine va_iald hx hb hK hP 10 0 rfl rfl hin dX5_spread_54 ?_
          refine lv_aload_n hx hb dX5_spread_55 rfl (lv_at hl 1 rfl) ?_
          refine va_get (D := (dC, dI)) (ci := 5) (v := .ref aRu) (C := RX5) (T := TX5) (N := 11) hx hb hts inX5 hown hK hP 9 rfl rfl 1 (by decide) (hts _ kw208) (fun _ h9 => h9) rfl dX5_spread_56 ?_
          refine lv_iload_n hx hb dX5_spread_59 rfl (lv_at hl 2 rfl) ?_
          obtain ⟨hin, hf⟩ := hf
          refine va_iald hx hb hK hP 10 0 rfl rfl hin dX5_spread_60 ?_
          refine lv_aload_n hx hb dX5_spread_61 rfl (lv_at hl 1 rfl) ?_
          refine va_get (D := (dC, dI)) (ci := 5) (v := .ref aS) (C := RX5) (T := TX5) (N := 11) hx hb hts inX5 hown hK hP 9 rfl rfl 0 (by decide) (hts _ kw207) (fun _ h9 => h9) rfl dX5_spread_62 ?_
          refine va_get (D := (dC, dI)) (ci := 6) (v := .ref aSg) (C := RX6) (T := TX6) (N := 4) hx hb hts inX6 hown hK hP 5 rfl rfl 2 (by decide) (hts _ kw190) (fun _ h9 => h9) rfl dX5_spread_65 ?_
          refine lv_iload hx hb dX5_spread_68 (lv_at hl 0 rfl) ?_
          obtain ⟨hin, hf⟩ := hf
          refine va_iald hx hb hK hP 8 0 rfl rfl hin dX5_spread_70 ?_
          refine lv_iadd hx hb dX5_spread_71 ?_
          refine va_mmax hx hb (hml.trans hl.1.symm) hown (hts _ kw317) (hts _ kw318) (hts _ kw11) (hts _ kw319) (Nat.le_of_ble_eq_true rfl) (Nat.le_of_ble_eq_true rfl) (Nat.le_of_ble_eq_true rfl) (Nat.le_of_ble_eq_true rfl) dX5_spread_72 ?_
          refine lv_topi (fun x72_4 ex72_4 => ?_)
          have hf := hf x72_4 ex72_4
          obtain ⟨hin, hf⟩ := hf
          refine va_iast hx hb hK hP hD hS 10 0 rfl rfl hin dX5_spread_75 (fun H locs hP hD hS => ?_)
          have hP : va_P (dC, dI) vwCl (wd_X5 cI cJ cZ cH aH aE aEd aEf aEs aS aSd aSf aSg aR aRu aRr aRw aRe aRa aRf aRs h_rate h_wrap e_days e_firsts e_seconds e_size s_days s_fars s_goods (upd r_until r32_3.toNatClampNeg x72_4) r_rest r_ways r_inEach r_inAny r_firsts r_reasons r_keptInFirst r_swapAt r_swapGood) H := hP
          have hD : va_D A (wd_X5 cI cJ cZ cH aH aE aEd aEf aEs aS aSd aSf aSg aR aRu aRr aRw aRe aRa aRf aRs h_rate h_wrap e_days e_firsts e_seconds e_size s_days s_fars s_goods (upd r_until r32_3.toNatClampNeg x72_4) r_rest r_ways r_inEach r_inAny r_firsts r_reasons r_keptInFirst r_swapAt r_swapGood) := hD
          exact J76 _ hK7 _ hK20 v1 v2 v3 (upd r_until r32_3.toNatClampNeg x72_4) hf _ _ _ hP hD hS (lv_sub hl [1, 2, 3, 4] rfl)
  have L7 : ∀ (n : Nat) (v1 : Int32) (v2 : Int32) (r_until : Nat → Int32), wp_X5_spread_h7 h_rate e_size s_days s_fars s_goods Q  n v1 v2 r_until → ∀ (H : Heap) (locs : List Loc) (ls : Array Slot), va_P (dC, dI) vwCl (wd_X5 cI cJ cZ cH aH aE aEd aEf aEs aS aSd aSf aSg aR aRu aRr aRw aRe aRa aRf aRs h_rate h_wrap e_days e_firsts e_seconds e_size s_days s_fars s_goods r_until r_rest r_ways r_inEach r_inAny r_firsts r_reasons r_keptInFirst r_swapAt r_swapGood) H → va_D A (wd_X5 cI cJ cZ cH aH aE aEd aEf aEs aS aSd aSf aSg aR aRu aRr aRw aRe aRa aRf aRs h_rate h_wrap e_days e_firsts e_seconds e_size s_days s_fars s_goods r_until r_rest r_ways r_inEach r_inAny r_firsts r_reasons r_keptInFirst r_swapAt r_swapGood) → va_S A s.heap H locs → lv_has ls 5 [(0, .ref aR), (1, .int v1), (2, .int v2)] → W p l e rm_X5_spread s m ([Value.ref aR, Value.int p1] : List Value).toArray below meth c H locs 0 0 Z (F0 m 7 ls []) := by
    intro n
    induction n with
    | zero =>
      intro v1 v2 r_until hf
      exact False.elim hf
    | succ n hK7 =>
      intro v1 v2 r_until hf H locs ls hP hD hS hl
      simp only [wp_X5_spread_h7] at hf
      refine lv_iload_n hx hb dX5_spread_7 rfl (lv_at hl 2 rfl) ?_
      refine lv_aload_n hx hb dX5_spread_8 rfl (lv_at hl 0 rfl) ?_
      refine va_get (D := (dC, dI)) (ci := 5) (v := .ref aS) (C := RX5) (T := TX5) (N := 11) hx hb hts inX5 hown hK hP 9 rfl rfl 0 (by decide) (hts _ kw207) (fun _ h9 => h9) rfl dX5_spread_9 ?_
      refine mk_i (w2 := fun u : Unit => wd_X5 cI cJ cZ cH aH aE aEd aEf aEs aS aSd aSf aSg aR aRu aRr aRw aRe aRa aRf aRs h_rate h_wrap e_days e_firsts e_seconds e_size s_days s_fars s_goods r_until r_rest r_ways r_inEach r_inAny r_firsts r_reasons r_keptInFirst r_swapAt r_swapGood) (wc := wd_X6 cI cJ cZ cH aH aE aEd aEf aEs aS aSd aSf aSg h_rate h_wrap e_days e_firsts e_seconds e_size s_days s_fars s_goods) hP hD hS hA [0, 1, 2, 3, 4, 5, 6, 7, 8] [9, 10, 11, 12, 13, 14, 15, 16] [8, 9, 10, 11, 12, 13, 14, 15, 16, 0, 1, 2, 3, 4, 5, 6, 7] rfl rfl rfl rfl (by decide) rfl (fun _ => rfl) (fun hPc hDc => va_runV (As := []) (rest := [.int v2]) ⟨hx, hb, hml, hown, hts⟩ (c_X6_size l dC dI cI cJ cZ cH aH aE aEd aEf aEs aS aSd aSf aSg H.size h_rate h_wrap e_days e_firsts e_seconds e_size s_days s_fars s_goods hf) (cwV 0 hts (gV kw308 kw298 kw299 kw7 kw300) rfl rfl rfl (by decide +kernel) ⟨Nat.le_of_ble_eq_true rfl, Nat.le_of_ble_eq_true rfl⟩) ⟨PX_blind, va_recv hK hPc (ci := 6) (q0 := 5) rfl rfl, PX_pre hPc hDc hK hN⟩ rfl rfl hl.1 rfl (lv_room (Nat.le_of_ble_eq_true rfl)) dX5_spread_12 ⟨Nat.le_of_ble_eq_true rfl, Nat.le_of_ble_eq_true rfl⟩) (fun r12_5 u H locs hf hP hD hS => ?_)
      try dsimp only at hf
      have hP : va_P (dC, dI) vwCl (wd_X5 cI cJ cZ cH aH aE aEd aEf aEs aS aSd aSf aSg aR aRu aRr aRw aRe aRa aRf aRs h_rate h_wrap e_days e_firsts e_seconds e_size s_days s_fars s_goods r_until r_rest r_ways r_inEach r_inAny r_firsts r_reasons r_keptInFirst r_swapAt r_swapGood) H := hP
      have hD : va_D A (wd_X5 cI cJ cZ cH aH aE aEd aEf aEs aS aSd aSf aSg aR aRu aRr aRw aRe aRa aRf aRs h_rate h_wrap e_days e_firsts e_seconds e_size s_days s_fars s_goods r_until r_rest r_ways r_inEach r_inAny r_firsts r_reasons r_keptInFirst r_swapAt r_swapGood) := hD
      refine lv_icmp_ge (tgt := 88) hx hb dX5_spread_15 (by decide) (fun c15 => ?_) (fun c15 => ?_)
      · have hf := hf.1 c15
        exact hRet _ _ _ _ r_until hf hP hD hS dX5_spread_88
      · have hf := hf.2 c15
        refine lv_iconst (v := 0) hx hb dX5_spread_18 (by decide) ?_
        refine lv_istore_n (lv' := [(3, .int (0 : Int32)), (0, .ref aR), (1, .int v1), (2, .int v2)]) hx hb dX5_spread_19 rfl hl (by decide) rfl (fun ls hl => ?_)
        obtain ⟨n9, hf⟩ := hf
        exact L20 _ hK7 n9 v1 v2 (0 : Int32) r_until hf _ _ _ hP hD hS (lv_sub hl [1, 2, 3, 0] rfl)
  unfold wp_X5_spread at hf
  refine lv_iload_n hx hb dX5_spread_0 rfl (lv_at hl 1 rfl) ?_
  refine mk_i (w2 := fun u : Unit => wd_X5 cI cJ cZ cH aH aE aEd aEf aEs aS aSd aSf aSg aR aRu aRr aRw aRe aRa aRf aRs h_rate h_wrap e_days e_firsts e_seconds e_size s_days s_fars s_goods r_until r_rest r_ways r_inEach r_inAny r_firsts r_reasons r_keptInFirst r_swapAt r_swapGood) (wc := wd_E cI cJ cZ cH ) hP hD hS hA [] [0, 1, 2, 3, 4, 5, 6, 7, 8, 9, 10, 11, 12, 13, 14, 15, 16] [0, 1, 2, 3, 4, 5, 6, 7, 8, 9, 10, 11, 12, 13, 14, 15, 16] rfl rfl rfl rfl (by decide) rfl (fun _ => rfl) (fun hPc hDc => va_runS (As := [.int p1]) (rest := []) ⟨hx, hb, hml, hown, hts⟩ (c_X6_readingOf l dC dI cI cJ cZ cH s.heap.size p1 hf) (va_cwS 1 hts (gS kw305 kw306 kw7 kw307) rfl rfl rfl (by decide +kernel) ⟨Nat.le_of_ble_eq_true rfl, Nat.le_of_ble_eq_true rfl⟩) ⟨PX_blind, PX_pre hPc hDc hK hN⟩ rfl rfl hl.1 rfl (lv_room (Nat.le_of_ble_eq_true rfl)) dX5_spread_1 ⟨Nat.le_of_ble_eq_true rfl, Nat.le_of_ble_eq_true rfl⟩) (fun r1_6 u H locs hf hP hD hS => ?_)
  try dsimp only at hf
  have hP : va_P (dC, dI) vwCl (wd_X5 cI cJ cZ cH aH aE aEd aEf aEs aS aSd aSf aSg aR aRu aRr aRw aRe aRa aRf aRs h_rate h_wrap e_days e_firsts e_seconds e_size s_days s_fars s_goods r_until r_rest r_ways r_inEach r_inAny r_firsts r_reasons r_keptInFirst r_swapAt r_swapGood) H := hP
  have hD : va_D A (wd_X5 cI cJ cZ cH aH aE aEd aEf aEs aS aSd aSf aSg aR aRu aRr aRw aRe aRa aRf aRs h_rate h_wrap e_days e_firsts e_seconds e_size s_days s_fars s_goods r_until r_rest r_ways r_inEach r_inAny r_firsts r_reasons r_keptInFirst r_swapAt r_swapGood) := hD
  refine lv_iconst (v := 1) hx hb dX5_spread_4 (by decide) ?_
  refine lv_iadd hx hb dX5_spread_5 ?_
  refine lv_topi (fun x6_7 ex6_7 => ?_)
  have hf := hf x6_7 ex6_7
  refine lv_istore_n (lv' := [(2, .int x6_7), (0, .ref aR), (1, .int p1)]) hx hb dX5_spread_6 rfl hl (by decide) rfl (fun ls hl => ?_)
  obtain ⟨n9, hf⟩ := hf
  exact L7  n9 p1 x6_7 r_until hf _ _ _ hP hD hS (lv_sub hl [1, 2, 0] rfl)
abbrev rm_X5_goForward : Room := { frames := 3, cells := 0, slots := 0, locals := 72 }
set_option maxHeartbeats 4000000 in
set_option maxRecDepth 100000 in
theorem c_X5_goForward (l : Launch) (dC : Nat → ClassId) (dI : Nat → Nat → Nat) (cI cJ cZ cH : ClassId) (aH : Nat) (aE : Nat) (aEd : Nat) (aEf : Nat) (aEs : Nat) (aS : Nat) (aSd : Nat) (aSf : Nat) (aSg : Nat) (aR : Nat) (aRu : Nat) (aRr : Nat) (aRw : Nat) (aRe : Nat) (aRa : Nat) (aRf : Nat) (aRs : Nat) (sz : Nat) (h_rate : Int32) (h_wrap : Int32) (e_days : Nat → Int32) (e_firsts : Nat → Int32) (e_seconds : Nat → Int32) (e_size : Int32) (s_days : Nat → Int32) (s_fars : Nat → Int32) (s_goods : Nat → Int32) (r_until : Nat → Int32) (r_rest : Nat → Int32) (r_ways : Nat → Int64) (r_inEach : Nat → Int32) (r_inAny : Nat → Int32) (r_firsts : Nat → Int32) (r_reasons : Nat → Int32) (r_keptInFirst : Int32) (r_swapAt : Int32) (r_swapGood : Int32) {Q : (Nat → Int32) → Prop} (hf : wp_X5_goForward h_rate e_size s_days s_fars s_goods r_until Q) : Met l yX5_goForward (.code yX5_goForward cX5_goForward 2 none :: GW) rm_X5_goForward (va_Pc [.ref aR] (PX (dC, dI) cI cJ cZ cH (wd_X5 cI cJ cZ cH aH aE aEd aEf aEs aS aSd aSf aSg aR aRu aRr aRw aRe aRa aRf aRs h_rate h_wrap e_days e_firsts e_seconds e_size s_days s_fars s_goods r_until r_rest r_ways r_inEach r_inAny r_firsts r_reasons r_keptInFirst r_swapAt r_swapGood) sz)) (va_Qv (fun (u : (Nat → Int32)) => Q u) (fun u t => BX (dC, dI) (wd_X5 cI cJ cZ cH aH aE aEd aEf aEs aS aSd aSf aSg aR aRu aRr aRw aRe aRa aRf aRs h_rate h_wrap e_days e_firsts e_seconds e_size s_days s_fars s_goods u r_rest r_ways r_inEach r_inAny r_firsts r_reasons r_keptInFirst r_swapAt r_swapGood) (va_A (wd_X5 cI cJ cZ cH aH aE aEd aEf aEs aS aSd aSf aSg aR aRu aRr aRw aRe aRa aRf aRs h_rate h_wrap e_days e_firsts e_seconds e_size s_days s_fars s_goods r_until r_rest r_ways r_inEach r_inAny r_firsts r_reasons r_keptInFirst r_swapAt r_swapGood) sz) t) (va_A (wd_X5 cI cJ cZ cH aH aE aEd aEf aEs aS aSd aSf aSg aR aRu aRr aRw aRe aRa aRf aRs h_rate h_wrap e_days e_firsts e_seconds e_size s_days s_fars s_goods r_until r_rest r_ways r_inEach r_inAny r_firsts r_reasons r_keptInFirst r_swapAt r_swapGood) sz)) 0 0 (va_A (wd_X5 cI cJ cZ cH aH aE aEd aEf aEs aS aSd aSf aSg aR aRu aRr aRw aRe aRa aRf aRs h_rate h_wrap e_days e_firsts e_seconds e_size s_days s_fars s_goods r_until r_rest r_ways r_inEach r_inAny r_firsts r_reasons r_keptInFirst r_swapAt r_swapGood) sz) := by
  refine Met_v (w1 := fun u : (Nat → Int32) => wd_X5 cI cJ cZ cH aH aE aEd aEf aEs aS aSd aSf aSg aR aRu aRr aRw aRe aRa aRf aRs h_rate h_wrap e_days e_firsts e_seconds e_size s_days s_fars s_goods u r_rest r_ways r_inEach r_inAny r_firsts r_reasons r_keptInFirst r_swapAt r_swapGood) (by decide) (Nat.le_of_ble_eq_true rfl) ?_
  intro p e s m below meth c A Z ls hsz hx hb hml hown hts hmn hA hP hK hN hD hS hl hRet
  have hown : s.vm.findClass "MilesKept$Repairs" = some m.cls := hown
  have hl : lv_has ls 2 [(0, .ref aR)] := hl
  have J42 : ∀ (K17 : Int32 → (Nat → Int32) → Prop) (hK17 : ∀ (v1 : Int32) (r_until : Nat → Int32), K17 v1 r_until → ∀ (H : Heap) (locs : List Loc) (ls : Array Slot), va_P (dC, dI) vwCl (wd_X5 cI cJ cZ cH aH aE aEd aEf aEs aS aSd aSf aSg aR aRu aRr aRw aRe aRa aRf aRs h_rate h_wrap e_days e_firsts e_seconds e_size s_days s_fars s_goods r_until r_rest r_ways r_inEach r_inAny r_firsts r_reasons r_keptInFirst r_swapAt r_swapGood) H → va_D A (wd_X5 cI cJ cZ cH aH aE aEd aEf aEs aS aSd aSf aSg aR aRu aRr aRw aRe aRa aRf aRs h_rate h_wrap e_days e_firsts e_seconds e_size s_days s_fars s_goods r_until r_rest r_ways r_inEach r_inAny r_firsts r_reasons r_keptInFirst r_swapAt r_swapGood) → va_S A s.heap H locs → lv_has ls 2 [(0, .ref aR), (1, .int v1)] → W p l e rm_X5_goForward s m ([Value.ref aR] : List Value).toArray below meth c H locs 0 0 Z (F0 m 17 ls [])), ∀ (v1 : Int32) (r_until : Nat → Int32), wp_X5_goForward_b42 h_rate e_size s_days s_fars s_goods Q K17 v1 r_until → ∀ (H : Heap) (locs : List Loc) (ls : Array Slot), va_P (dC, dI) vwCl (wd_X5 cI cJ cZ cH aH aE aEd aEf aEs aS aSd aSf aSg aR aRu aRr aRw aRe aRa aRf aRs h_rate h_wrap e_days e_firsts e_seconds e_size s_days s_fars s_goods r_until r_rest r_ways r_inEach r_inAny r_firsts r_reasons r_keptInFirst r_swapAt r_swapGood) H → va_D A (wd_X5 cI cJ cZ cH aH aE aEd aEf aEs aS aSd aSf aSg aR aRu aRr aRw aRe aRa aRf aRs h_rate h_wrap e_days e_firsts e_seconds e_size s_days s_fars s_goods r_until r_rest r_ways r_inEach r_inAny r_firsts r_reasons r_keptInFirst r_swapAt r_swapGood) → va_S A s.heap H locs → lv_has ls 2 [(0, .ref aR), (1, .int v1)] → W p l e rm_X5_goForward s m ([Value.ref aR] : List Value).toArray below meth c H locs 0 0 Z (F0 m 42 ls []) := by
    intro K17 hK17 v1 r_until hf H locs ls hP hD hS hl
    unfold wp_X5_goForward_b42 at hf
    obtain ⟨x42_1, ex42_1⟩ : ∃ y : Int32, y = v1 + 1 := ⟨_, rfl⟩
    have hf := hf x42_1 ex42_1
    refine lv_iinc (v := x42_1) (lv' := [(1, .int x42_1), (0, .ref aR)]) hx hb dX5_goForward_42 hl (k := 1) rfl (by rw [ex42_1]; rfl) (by decide) rfl (fun ls hl => ?_)
    refine lv_goto (tgt := 17) hx hb dX5_goForward_45 (by decide) ?_
    exact hK17 x42_1 r_until hf _ _ _ hP hD hS (lv_sub hl [1, 0] rfl)
  have L17 : ∀ (n : Nat) (v1 : Int32) (r_until : Nat → Int32), wp_X5_goForward_h17 h_rate e_size s_days s_fars s_goods Q  n v1 r_until → ∀ (H : Heap) (locs : List Loc) (ls : Array Slot), va_P (dC, dI) vwCl (wd_X5 cI cJ cZ cH aH aE aEd aEf aEs aS aSd aSf aSg aR aRu aRr aRw aRe aRa aRf aRs h_rate h_wrap e_days e_firsts e_seconds e_size s_days s_fars s_goods r_until r_rest r_ways r_inEach r_inAny r_firsts r_reasons r_keptInFirst r_swapAt r_swapGood) H → va_D A (wd_X5 cI cJ cZ cH aH aE aEd aEf aEs aS aSd aSf aSg aR aRu aRr aRw aRe aRa aRf aRs h_rate h_wrap e_days e_firsts e_seconds e_size s_days s_fars s_goods r_until r_rest r_ways r_inEach r_inAny r_firsts r_reasons r_keptInFirst r_swapAt r_swapGood) → va_S A s.heap H locs → lv_has ls 2 [(0, .ref aR), (1, .int v1)] → W p l e rm_X5_goForward s m ([Value.ref aR] : List Value).toArray below meth c H locs 0 0 Z (F0 m 17 ls []) := by
    intro n
    induction n with
    | zero =>
      intro v1 r_until hf
      exact False.elim hf
    | succ n hK17 =>
      intro v1 r_until hf H locs ls hP hD hS hl
      simp only [wp_X5_goForward_h17] at hf
      refine lv_iload_n hx hb dX5_goForward_17 rfl (lv_at hl 1 rfl) ?_
      refine lv_aload_n hx hb dX5_goForward_18 rfl (lv_at hl 0 rfl) ?_
      refine va_get (D := (dC, dI)) (ci := 5) (v := .ref aS) (C := RX5) (T := TX5) (N := 11) hx hb hts inX5 hown hK hP 9 rfl rfl 0 (by decide) (hts _ kw207) (fun _ h9 => h9) rfl dX5_goForward_19 ?_
      refine mk_i (w2 := fun u : Unit => wd_X5 cI cJ cZ cH aH aE aEd aEf aEs aS aSd aSf aSg aR aRu aRr aRw aRe aRa aRf aRs h_rate h_wrap e_days e_firsts e_seconds e_size s_days s_fars s_goods r_until r_rest r_ways r_inEach r_inAny r_firsts r_reasons r_keptInFirst r_swapAt r_swapGood) (wc := wd_X6 cI cJ cZ cH aH aE aEd aEf aEs aS aSd aSf aSg h_rate h_wrap e_days e_firsts e_seconds e_size s_days s_fars s_goods) hP hD hS hA [0, 1, 2, 3, 4, 5, 6, 7, 8] [9, 10, 11, 12, 13, 14, 15, 16] [8, 9, 10, 11, 12, 13, 14, 15, 16, 0, 1, 2, 3, 4, 5, 6, 7] rfl rfl rfl rfl (by decide) rfl (fun _ => rfl) (fun hPc hDc => va_runV (As := []) (rest := [.int v1]) ⟨hx, hb, hml, hown, hts⟩ (c_X6_end l dC dI cI cJ cZ cH aH aE aEd aEf aEs aS aSd aSf aSg H.size h_rate h_wrap e_days e_firsts e_seconds e_size s_days s_fars s_goods hf) (cwV 0 hts (gV kw293 kw294 kw295 kw7 kw296) rfl rfl rfl (by decide +kernel) ⟨Nat.le_of_ble_eq_true rfl, Nat.le_of_ble_eq_true rfl⟩) ⟨PX_blind, va_recv hK hPc (ci := 6) (q0 := 5) rfl rfl, PX_pre hPc hDc hK hN⟩ rfl rfl hl.1 rfl (lv_room (Nat.le_of_ble_eq_true rfl)) dX5_goForward_22 ⟨Nat.le_of_ble_eq_true rfl, Nat.le_of_ble_eq_true rfl⟩) (fun r22_2 u H locs hf hP hD hS => ?_)
      try dsimp only at hf
      have hP : va_P (dC, dI) vwCl (wd_X5 cI cJ cZ cH aH aE aEd aEf aEs aS aSd aSf aSg aR aRu aRr aRw aRe aRa aRf aRs h_rate h_wrap e_days e_firsts e_seconds e_size s_days s_fars s_goods r_until r_rest r_ways r_inEach r_inAny r_firsts r_reasons r_keptInFirst r_swapAt r_swapGood) H := hP
      have hD : va_D A (wd_X5 cI cJ cZ cH aH aE aEd aEf aEs aS aSd aSf aSg aR aRu aRr aRw aRe aRa aRf aRs h_rate h_wrap e_days e_firsts e_seconds e_size s_days s_fars s_goods r_until r_rest r_ways r_inEach r_inAny r_firsts r_reasons r_keptInFirst r_swapAt r_swapGood) := hD
      refine lv_icmp_ge (tgt := 48) hx hb dX5_goForward_25 (by decide) (fun c25 => ?_) (fun c25 => ?_)
      · have hf := hf.1 c25
        exact hRet _ _ _ _ r_until hf hP hD hS dX5_goForward_48
      · have hf := hf.2 c25
        refine lv_aload_n hx hb dX5_goForward_28 rfl (lv_at hl 0 rfl) ?_
        refine va_get (D := (dC, dI)) (ci := 5) (v := .ref aRu) (C := RX5) (T := TX5) (N := 11) hx hb hts inX5 hown hK hP 9 rfl rfl 1 (by decide) (hts _ kw208) (fun _ h9 => h9) rfl dX5_goForward_29 ?_
        refine lv_iload_n hx hb dX5_goForward_32 rfl (lv_at hl 1 rfl) ?_
        obtain ⟨hin, hf⟩ := hf
        refine va_iald hx hb hK hP 10 0 rfl rfl hin dX5_goForward_33 ?_
        refine lv_if_lt (tgt := 42) hx hb dX5_goForward_34 (by decide) (fun c34 => ?_) (fun c34 => ?_)
        · have hf := hf.1 c34
          exact J42 _ hK17 v1 r_until hf _ _ _ hP hD hS (lv_sub hl [0, 1] rfl)
        · have hf := hf.2 c34
          refine lv_aload_n hx hb dX5_goForward_37 rfl (lv_at hl 0 rfl) ?_
          refine lv_iload_n hx hb dX5_goForward_38 rfl (lv_at hl 1 rfl) ?_
          refine mk_v (w2 := fun u : (Nat → Int32) => wd_X5 cI cJ cZ cH aH aE aEd aEf aEs aS aSd aSf aSg aR aRu aRr aRw aRe aRa aRf aRs h_rate h_wrap e_days e_firsts e_seconds e_size s_days s_fars s_goods u r_rest r_ways r_inEach r_inAny r_firsts r_reasons r_keptInFirst r_swapAt r_swapGood) (wc := wd_X5 cI cJ cZ cH aH aE aEd aEf aEs aS aSd aSf aSg aR aRu aRr aRw aRe aRa aRf aRs h_rate h_wrap e_days e_firsts e_seconds e_size s_days s_fars s_goods r_until r_rest r_ways r_inEach r_inAny r_firsts r_reasons r_keptInFirst r_swapAt r_swapGood) hP hD hS hA [0, 1, 2, 3, 4, 5, 6, 7, 8, 9, 10, 11, 12, 13, 14, 15, 16] [] [0, 1, 2, 3, 4, 5, 6, 7, 8, 9, 10, 11, 12, 13, 14, 15, 16] rfl rfl rfl rfl (by decide) rfl (fun _ => rfl) (fun hPc hDc => va_runV (As := [.int v1]) (rest := []) ⟨hx, hb, hml, hown, hts⟩ (c_X5_spread l dC dI cI cJ cZ cH aH aE aEd aEf aEs aS aSd aSf aSg aR aRu aRr aRw aRe aRa aRf aRs H.size h_rate h_wrap e_days e_firsts e_seconds e_size s_days s_fars s_goods r_until r_rest r_ways r_inEach r_inAny r_firsts r_reasons r_keptInFirst r_swapAt r_swapGood v1 hf) (cwV 1 hts (gV kw301 kw303 kp3 kw8 kw304) rfl rfl rfl (by decide +kernel) ⟨Nat.le_of_ble_eq_true rfl, Nat.le_of_ble_eq_true rfl⟩) ⟨PX_blind, va_recv hK hPc (ci := 5) (q0 := 9) rfl rfl, PX_pre hPc hDc hK hN⟩ rfl rfl hl.1 rfl (lv_room (Nat.le_of_ble_eq_true rfl)) dX5_goForward_39 ⟨Nat.le_of_ble_eq_true rfl, Nat.le_of_ble_eq_true rfl⟩) (fun r_until_39_3 H locs hf hP hD hS => ?_)
          try dsimp only at hf
          have hP : va_P (dC, dI) vwCl (wd_X5 cI cJ cZ cH aH aE aEd aEf aEs aS aSd aSf aSg aR aRu aRr aRw aRe aRa aRf aRs h_rate h_wrap e_days e_firsts e_seconds e_size s_days s_fars s_goods r_until_39_3 r_rest r_ways r_inEach r_inAny r_firsts r_reasons r_keptInFirst r_swapAt r_swapGood) H := hP
          have hD : va_D A (wd_X5 cI cJ cZ cH aH aE aEd aEf aEs aS aSd aSf aSg aR aRu aRr aRw aRe aRa aRf aRs h_rate h_wrap e_days e_firsts e_seconds e_size s_days s_fars s_goods r_until_39_3 r_rest r_ways r_inEach r_inAny r_firsts r_reasons r_keptInFirst r_swapAt r_swapGood) := hD
          exact J42 _ hK17 v1 r_until_39_3 hf _ _ _ hP hD hS (lv_sub hl [0, 1] rfl)
  unfold wp_X5_goForward at hf
  refine lv_aload_n hx hb dX5_goForward_0 rfl (lv_at hl 0 rfl) ?_
  refine va_get (D := (dC, dI)) (ci := 5) (v := .ref aRu) (C := RX5) (T := TX5) (N := 11) hx hb hts inX5 hown hK hP 9 rfl rfl 1 (by decide) (hts _ kw208) (fun _ h9 => h9) rfl dX5_goForward_1 ?_
  refine lv_iconst (v := (-1)) hx hb dX5_goForward_4 (by decide) ?_
  refine mk_v (w2 := fun u : (Nat → Int32) => wd_X5 cI cJ cZ cH aH aE aEd aEf aEs aS aSd aSf aSg aR aRu aRr aRw aRe aRa aRf aRs h_rate h_wrap e_days e_firsts e_seconds e_size s_days s_fars s_goods u r_rest r_ways r_inEach r_inAny r_firsts r_reasons r_keptInFirst r_swapAt r_swapGood) (wc := wd_AI cI cJ cZ cH 88 aRu r_until) hP hD hS hA [10] [0, 1, 2, 3, 4, 5, 6, 7, 8, 9, 11, 12, 13, 14, 15, 16] [0, 1, 2, 3, 4, 5, 6, 7, 8, 9, 16, 10, 11, 12, 13, 14, 15] rfl rfl rfl rfl (by decide) rfl (fun _ => rfl) (fun hPc hDc => va_runS (As := [.ref aRu, .int (-1 : Int32)]) (rest := []) ⟨hx, hb, hml, hown, hts⟩ (c_J7_fill_53178 l dC dI cI cJ cZ cH aRu s.heap.size 88 r_until (-1 : Int32) hf) (va_cwS 2 hts (gS kw290 kw291 kw10 kw292) rfl rfl rfl (by decide +kernel) ⟨Nat.le_of_ble_eq_true rfl, Nat.le_of_ble_eq_true rfl⟩) ⟨PX_blind, PX_pre hPc hDc hK hN⟩ rfl rfl hl.1 rfl (lv_room (Nat.le_of_ble_eq_true rfl)) dX5_goForward_5 ⟨Nat.le_of_ble_eq_true rfl, Nat.le_of_ble_eq_true rfl⟩) (fun f_row_5_4 H locs hf hP hD hS => ?_)
  try dsimp only at hf
  have hP : va_P (dC, dI) vwCl (wd_X5 cI cJ cZ cH aH aE aEd aEf aEs aS aSd aSf aSg aR aRu aRr aRw aRe aRa aRf aRs h_rate h_wrap e_days e_firsts e_seconds e_size s_days s_fars s_goods f_row_5_4 r_rest r_ways r_inEach r_inAny r_firsts r_reasons r_keptInFirst r_swapAt r_swapGood) H := hP
  have hD : va_D A (wd_X5 cI cJ cZ cH aH aE aEd aEf aEs aS aSd aSf aSg aR aRu aRr aRw aRe aRa aRf aRs h_rate h_wrap e_days e_firsts e_seconds e_size s_days s_fars s_goods f_row_5_4 r_rest r_ways r_inEach r_inAny r_firsts r_reasons r_keptInFirst r_swapAt r_swapGood) := hD
  refine lv_aload_n hx hb dX5_goForward_8 rfl (lv_at hl 0 rfl) ?_
  refine va_get (D := (dC, dI)) (ci := 5) (v := .ref aRu) (C := RX5) (T := TX5) (N := 11) hx hb hts inX5 hown hK hP 9 rfl rfl 1 (by decide) (hts _ kw208) (fun _ h9 => h9) rfl dX5_goForward_9 ?_
  refine lv_iconst (v := 0) hx hb dX5_goForward_12 (by decide) ?_
  refine lv_iconst (v := 0) hx hb dX5_goForward_13 (by decide) ?_
  refine va_iast hx hb hK hP hD hS 10 0 rfl rfl (by unfold vp_in; decide) dX5_goForward_14 (fun H locs hP hD hS => ?_)
  have hP : va_P (dC, dI) vwCl (wd_X5 cI cJ cZ cH aH aE aEd aEf aEs aS aSd aSf aSg aR aRu aRr aRw aRe aRa aRf aRs h_rate h_wrap e_days e_firsts e_seconds e_size s_days s_fars s_goods (upd f_row_5_4 (0 : Int32).toNatClampNeg (0 : Int32)) r_rest r_ways r_inEach r_inAny r_firsts r_reasons r_keptInFirst r_swapAt r_swapGood) H := hP
  have hD : va_D A (wd_X5 cI cJ cZ cH aH aE aEd aEf aEs aS aSd aSf aSg aR aRu aRr aRw aRe aRa aRf aRs h_rate h_wrap e_days e_firsts e_seconds e_size s_days s_fars s_goods (upd f_row_5_4 (0 : Int32).toNatClampNeg (0 : Int32)) r_rest r_ways r_inEach r_inAny r_firsts r_reasons r_keptInFirst r_swapAt r_swapGood) := hD
  refine lv_iconst (v := 0) hx hb dX5_goForward_15 (by decide) ?_
  refine lv_istore_n (lv' := [(1, .int (0 : Int32)), (0, .ref aR)]) hx hb dX5_goForward_16 rfl hl (by decide) rfl (fun ls hl => ?_)
  obtain ⟨n9, hf⟩ := hf
  exact L17  n9 (0 : Int32) (upd f_row_5_4 (0 : Int32).toNatClampNeg (0 : Int32)) hf _ _ _ hP hD hS (lv_sub hl [1, 0] rfl)
abbrev rm_X5_gather : Room := { frames := 2, cells := 0, slots := 0, locals := 48 }
set_option maxHeartbeats 4000000 in
set_option maxRecDepth 100000 in
theorem c_X5_gather (l : Launch) (dC : Nat → ClassId) (dI : Nat → Nat → Nat) (cI cJ cZ cH : ClassId) (aH : Nat) (aE : Nat) (aEd : Nat) (aEf : Nat) (aEs : Nat) (aS : Nat) (aSd : Nat) (aSf : Nat) (aSg : Nat) (aR : Nat) (aRu : Nat) (aRr : Nat) (aRw : Nat) (aRe : Nat) (aRa : Nat) (aRf : Nat) (aRs : Nat) (sz : Nat) (h_rate : Int32) (h_wrap : Int32) (e_days : Nat → Int32) (e_firsts : Nat → Int32) (e_seconds : Nat → Int32) (e_size : Int32) (s_days : Nat → Int32) (s_fars : Nat → Int32) (s_goods : Nat → Int32) (r_until : Nat → Int32) (r_rest : Nat → Int32) (r_ways : Nat → Int64) (r_inEach : Nat → Int32) (r_inAny : Nat → Int32) (r_firsts : Nat → Int32) (r_reasons : Nat → Int32) (r_keptInFirst : Int32) (r_swapAt : Int32) (r_swapGood : Int32) (p1 : Int32) {Q : (Nat → Int32) → (Nat → Int64) → (Nat → Int32) → (Nat → Int32) → Prop} (hf : wp_X5_gather h_rate e_size s_days s_fars s_goods r_rest r_ways r_inEach r_inAny p1 Q) : Met l yX5_gather (.code yX5_gather cX5_gather 11 none :: GW) rm_X5_gather (va_Pc [.ref aR, .int p1] (PX (dC, dI) cI cJ cZ cH (wd_X5 cI cJ cZ cH aH aE aEd aEf aEs aS aSd aSf aSg aR aRu aRr aRw aRe aRa aRf aRs h_rate h_wrap e_days e_firsts e_seconds e_size s_days s_fars s_goods r_until r_rest r_ways r_inEach r_inAny r_firsts r_reasons r_keptInFirst r_swapAt r_swapGood) sz)) (va_Qv (fun (u : (Nat → Int32) × (Nat → Int64) × (Nat → Int32) × (Nat → Int32)) => Q u.1 u.2.1 u.2.2.1 u.2.2.2) (fun u t => BX (dC, dI) (wd_X5 cI cJ cZ cH aH aE aEd aEf aEs aS aSd aSf aSg aR aRu aRr aRw aRe aRa aRf aRs h_rate h_wrap e_days e_firsts e_seconds e_size s_days s_fars s_goods r_until u.1 u.2.1 u.2.2.1 u.2.2.2 r_firsts r_reasons r_keptInFirst r_swapAt r_swapGood) (va_A (wd_X5 cI cJ cZ cH aH aE aEd aEf aEs aS aSd aSf aSg aR aRu aRr aRw aRe aRa aRf aRs h_rate h_wrap e_days e_firsts e_seconds e_size s_days s_fars s_goods r_until r_rest r_ways r_inEach r_inAny r_firsts r_reasons r_keptInFirst r_swapAt r_swapGood) sz) t) (va_A (wd_X5 cI cJ cZ cH aH aE aEd aEf aEs aS aSd aSf aSg aR aRu aRr aRw aRe aRa aRf aRs h_rate h_wrap e_days e_firsts e_seconds e_size s_days s_fars s_goods r_until r_rest r_ways r_inEach r_inAny r_firsts r_reasons r_keptInFirst r_swapAt r_swapGood) sz)) 0 0 (va_A (wd_X5 cI cJ cZ cH aH aE aEd aEf aEs aS aSd aSf aSg aR aRu aRr aRw aRe aRa aRf aRs h_rate h_wrap e_days e_firsts e_seconds e_size s_days s_fars s_goods r_until r_rest r_ways r_inEach r_inAny r_firsts r_reasons r_keptInFirst r_swapAt r_swapGood) sz) := by
  refine Met_v (w1 := fun u : (Nat → Int32) × (Nat → Int64) × (Nat → Int32) × (Nat → Int32) => wd_X5 cI cJ cZ cH aH aE aEd aEf aEs aS aSd aSf aSg aR aRu aRr aRw aRe aRa aRf aRs h_rate h_wrap e_days e_firsts e_seconds e_size s_days s_fars s_goods r_until u.1 u.2.1 u.2.2.1 u.2.2.2 r_firsts r_reasons r_keptInFirst r_swapAt r_swapGood) (by decide) (Nat.le_of_ble_eq_true rfl) ?_
  intro p e s m below meth c A Z ls hsz hx hb hml hown hts hmn hA hP hK hN hD hS hl hRet
  have hown : s.vm.findClass "MilesKept$Repairs" = some m.cls := hown
  have hl : lv_has ls 11 [(0, .ref aR), (1, .int p1)] := hl
  have J203 : ∀ (k0 : Int32) (v1 : Int32) (v2 : Int32) (v3 : Int64) (v5 : Int32) (v6 : Int32) (r_rest : Nat → Int32) (r_ways : Nat → Int64) (r_inEach : Nat → Int32) (r_inAny : Nat → Int32), wp_X5_gather_b203 h_rate e_size s_days s_fars s_goods Q  k0 v1 v2 v3 v5 v6 r_rest r_ways r_inEach r_inAny → ∀ (H : Heap) (locs : List Loc) (ls : Array Slot), va_P (dC, dI) vwCl (wd_X5 cI cJ cZ cH aH aE aEd aEf aEs aS aSd aSf aSg aR aRu aRr aRw aRe aRa aRf aRs h_rate h_wrap e_days e_firsts e_seconds e_size s_days s_fars s_goods r_until r_rest r_ways r_inEach r_inAny r_firsts r_reasons r_keptInFirst r_swapAt r_swapGood) H → va_D A (wd_X5 cI cJ cZ cH aH aE aEd aEf aEs aS aSd aSf aSg aR aRu aRr aRw aRe aRa aRf aRs h_rate h_wrap e_days e_firsts e_seconds e_size s_days s_fars s_goods r_until r_rest r_ways r_inEach r_inAny r_firsts r_reasons r_keptInFirst r_swapAt r_swapGood) → va_S A s.heap H locs → lv_has ls 11 [(0, .ref aR), (1, .int v1), (2, .int v2), (3, .long v3), (5, .int v5), (6, .int v6)] → W p l e rm_X5_gather s m ([Value.ref aR, Value.int p1] : List Value).toArray below meth c H locs 0 0 Z (F0 m 203 ls [.int k0]) := by
    intro  k0 v1 v2 v3 v5 v6 r_rest r_ways r_inEach r_inAny hf H locs ls hP hD hS hl
    unfold wp_X5_gather_b203 at hf
    refine lv_istore (lv' := [(7, .int k0), (0, .ref aR), (1, .int v1), (2, .int v2), (3, .long v3), (5, .int v5), (6, .int v6)]) hx hb dX5_gather_203 hl (by decide) rfl (fun ls hl => ?_)
    refine lv_aload_n hx hb dX5_gather_205 rfl (lv_at hl 1 rfl) ?_
    refine va_get (D := (dC, dI)) (ci := 5) (v := .ref aRr) (C := RX5) (T := TX5) (N := 11) hx hb hts inX5 hown hK hP 9 rfl rfl 2 (by decide) (hts _ kw209) (fun _ h9 => h9) rfl dX5_gather_206 ?_
    refine lv_iload_n hx hb dX5_gather_209 rfl (lv_at hl 2 rfl) ?_
    refine lv_iload_n hx hb dX5_gather_210 rfl (lv_at hl 3 rfl) ?_
    refine lv_aload_n hx hb dX5_gather_211 rfl (lv_at hl 1 rfl) ?_
    refine va_get (D := (dC, dI)) (ci := 5) (v := .ref aS) (C := RX5) (T := TX5) (N := 11) hx hb hts inX5 hown hK hP 9 rfl rfl 0 (by decide) (hts _ kw207) (fun _ h9 => h9) rfl dX5_gather_212 ?_
    refine va_get (D := (dC, dI)) (ci := 6) (v := .ref aSg) (C := RX6) (T := TX6) (N := 4) hx hb hts inX6 hown hK hP 5 rfl rfl 2 (by decide) (hts _ kw190) (fun _ h9 => h9) rfl dX5_gather_215 ?_
    refine lv_iload_n hx hb dX5_gather_218 rfl (lv_at hl 2 rfl) ?_
    obtain ⟨hin, hf⟩ := hf
    refine va_iald hx hb hK hP 8 0 rfl rfl hin dX5_gather_219 ?_
    refine lv_iadd hx hb dX5_gather_220 ?_
    refine lv_topi (fun x221_1 ex221_1 => ?_)
    have hf := hf x221_1 ex221_1
    obtain ⟨hin, hf⟩ := hf
    refine va_iast hx hb hK hP hD hS 11 0 rfl rfl hin dX5_gather_221 (fun H locs hP hD hS => ?_)
    have hP : va_P (dC, dI) vwCl (wd_X5 cI cJ cZ cH aH aE aEd aEf aEs aS aSd aSf aSg aR aRu aRr aRw aRe aRa aRf aRs h_rate h_wrap e_days e_firsts e_seconds e_size s_days s_fars s_goods r_until (upd r_rest v1.toNatClampNeg x221_1) r_ways r_inEach r_inAny r_firsts r_reasons r_keptInFirst r_swapAt r_swapGood) H := hP
    have hD : va_D A (wd_X5 cI cJ cZ cH aH aE aEd aEf aEs aS aSd aSf aSg aR aRu aRr aRw aRe aRa aRf aRs h_rate h_wrap e_days e_firsts e_seconds e_size s_days s_fars s_goods r_until (upd r_rest v1.toNatClampNeg x221_1) r_ways r_inEach r_inAny r_firsts r_reasons r_keptInFirst r_swapAt r_swapGood) := hD
    refine lv_aload_n hx hb dX5_gather_222 rfl (lv_at hl 1 rfl) ?_
    refine va_get (D := (dC, dI)) (ci := 5) (v := .ref aRw) (C := RX5) (T := TX5) (N := 11) hx hb hts inX5 hown hK hP 9 rfl rfl 3 (by decide) (hts _ kw210) (fun _ h9 => h9) rfl dX5_gather_223 ?_
    refine lv_iload_n hx hb dX5_gather_226 rfl (lv_at hl 2 rfl) ?_
    refine lv_lload_n hx hb dX5_gather_227 rfl (lv_at hl 4 rfl) ?_
    obtain ⟨hin, hf⟩ := hf
    refine va_last hx hb hK hP hD hS 12 1 rfl rfl hin dX5_gather_228 (fun H locs hP hD hS => ?_)
    have hP : va_P (dC, dI) vwCl (wd_X5 cI cJ cZ cH aH aE aEd aEf aEs aS aSd aSf aSg aR aRu aRr aRw aRe aRa aRf aRs h_rate h_wrap e_days e_firsts e_seconds e_size s_days s_fars s_goods r_until (upd r_rest v1.toNatClampNeg x221_1) (vp_updL r_ways v1.toNatClampNeg v3) r_inEach r_inAny r_firsts r_reasons r_keptInFirst r_swapAt r_swapGood) H := hP
    have hD : va_D A (wd_X5 cI cJ cZ cH aH aE aEd aEf aEs aS aSd aSf aSg aR aRu aRr aRw aRe aRa aRf aRs h_rate h_wrap e_days e_firsts e_seconds e_size s_days s_fars s_goods r_until (upd r_rest v1.toNatClampNeg x221_1) (vp_updL r_ways v1.toNatClampNeg v3) r_inEach r_inAny r_firsts r_reasons r_keptInFirst r_swapAt r_swapGood) := hD
    refine lv_aload_n hx hb dX5_gather_229 rfl (lv_at hl 1 rfl) ?_
    refine va_get (D := (dC, dI)) (ci := 5) (v := .ref aRe) (C := RX5) (T := TX5) (N := 11) hx hb hts inX5 hown hK hP 9 rfl rfl 4 (by decide) (hts _ kw211) (fun _ h9 => h9) rfl dX5_gather_230 ?_
    refine lv_iload_n hx hb dX5_gather_233 rfl (lv_at hl 2 rfl) ?_
    refine lv_iload hx hb dX5_gather_234 (lv_at hl 5 rfl) ?_
    refine lv_iload hx hb dX5_gather_236 (lv_at hl 0 rfl) ?_
    refine lv_ior hx hb dX5_gather_238 ?_
    refine lv_topi (fun x239_2 ex239_2 => ?_)
    have hf := hf x239_2 ex239_2
    obtain ⟨hin, hf⟩ := hf
    refine va_iast hx hb hK hP hD hS 13 0 rfl rfl hin dX5_gather_239 (fun H locs hP hD hS => ?_)
    have hP : va_P (dC, dI) vwCl (wd_X5 cI cJ cZ cH aH aE aEd aEf aEs aS aSd aSf aSg aR aRu aRr aRw aRe aRa aRf aRs h_rate h_wrap e_days e_firsts e_seconds e_size s_days s_fars s_goods r_until (upd r_rest v1.toNatClampNeg x221_1) (vp_updL r_ways v1.toNatClampNeg v3) (upd r_inEach v1.toNatClampNeg x239_2) r_inAny r_firsts r_reasons r_keptInFirst r_swapAt r_swapGood) H := hP
    have hD : va_D A (wd_X5 cI cJ cZ cH aH aE aEd aEf aEs aS aSd aSf aSg aR aRu aRr aRw aRe aRa aRf aRs h_rate h_wrap e_days e_firsts e_seconds e_size s_days s_fars s_goods r_until (upd r_rest v1.toNatClampNeg x221_1) (vp_updL r_ways v1.toNatClampNeg v3) (upd r_inEach v1.toNatClampNeg x239_2) r_inAny r_firsts r_reasons r_keptInFirst r_swapAt r_swapGood) := hD
    refine lv_aload_n hx hb dX5_gather_240 rfl (lv_at hl 1 rfl) ?_
    refine va_get (D := (dC, dI)) (ci := 5) (v := .ref aRa) (C := RX5) (T := TX5) (N := 11) hx hb hts inX5 hown hK hP 9 rfl rfl 5 (by decide) (hts _ kw212) (fun _ h9 => h9) rfl dX5_gather_241 ?_
    refine lv_iload_n hx hb dX5_gather_244 rfl (lv_at hl 2 rfl) ?_
    refine lv_iload hx hb dX5_gather_245 (lv_at hl 6 rfl) ?_
    refine lv_iload hx hb dX5_gather_247 (lv_at hl 0 rfl) ?_
    refine lv_ior hx hb dX5_gather_249 ?_
    refine lv_topi (fun x250_3 ex250_3 => ?_)
    have hf := hf x250_3 ex250_3
    obtain ⟨hin, hf⟩ := hf
    refine va_iast hx hb hK hP hD hS 14 0 rfl rfl hin dX5_gather_250 (fun H locs hP hD hS => ?_)
    have hP : va_P (dC, dI) vwCl (wd_X5 cI cJ cZ cH aH aE aEd aEf aEs aS aSd aSf aSg aR aRu aRr aRw aRe aRa aRf aRs h_rate h_wrap e_days e_firsts e_seconds e_size s_days s_fars s_goods r_until (upd r_rest v1.toNatClampNeg x221_1) (vp_updL r_ways v1.toNatClampNeg v3) (upd r_inEach v1.toNatClampNeg x239_2) (upd r_inAny v1.toNatClampNeg x250_3) r_firsts r_reasons r_keptInFirst r_swapAt r_swapGood) H := hP
    have hD : va_D A (wd_X5 cI cJ cZ cH aH aE aEd aEf aEs aS aSd aSf aSg aR aRu aRr aRw aRe aRa aRf aRs h_rate h_wrap e_days e_firsts e_seconds e_size s_days s_fars s_goods r_until (upd r_rest v1.toNatClampNeg x221_1) (vp_updL r_ways v1.toNatClampNeg v3) (upd r_inEach v1.toNatClampNeg x239_2) (upd r_inAny v1.toNatClampNeg x250_3) r_firsts r_reasons r_keptInFirst r_swapAt r_swapGood) := hD
    exact hRet _ _ _ _ ((upd r_rest v1.toNatClampNeg x221_1), (vp_updL r_ways v1.toNatClampNeg v3), (upd r_inEach v1.toNatClampNeg x239_2), (upd r_inAny v1.toNatClampNeg x250_3)) hf hP hD hS dX5_gather_251
  have J177 : ∀ (K18 : Int32 → Int32 → Int64 → Int32 → Int32 → Int32 → (Nat → Int32) → (Nat → Int64) → (Nat → Int32) → (Nat → Int32) → Prop) (hK18 : ∀ (v1 : Int32) (v2 : Int32) (v3 : Int64) (v5 : Int32) (v6 : Int32) (v7 : Int32) (r_rest : Nat → Int32) (r_ways : Nat → Int64) (r_inEach : Nat → Int32) (r_inAny : Nat → Int32), K18 v1 v2 v3 v5 v6 v7 r_rest r_ways r_inEach r_inAny → ∀ (H : Heap) (locs : List Loc) (ls : Array Slot), va_P (dC, dI) vwCl (wd_X5 cI cJ cZ cH aH aE aEd aEf aEs aS aSd aSf aSg aR aRu aRr aRw aRe aRa aRf aRs h_rate h_wrap e_days e_firsts e_seconds e_size s_days s_fars s_goods r_until r_rest r_ways r_inEach r_inAny r_firsts r_reasons r_keptInFirst r_swapAt r_swapGood) H → va_D A (wd_X5 cI cJ cZ cH aH aE aEd aEf aEs aS aSd aSf aSg aR aRu aRr aRw aRe aRa aRf aRs h_rate h_wrap e_days e_firsts e_seconds e_size s_days s_fars s_goods r_until r_rest r_ways r_inEach r_inAny r_firsts r_reasons r_keptInFirst r_swapAt r_swapGood) → va_S A s.heap H locs → lv_has ls 11 [(0, .ref aR), (1, .int v1), (2, .int v2), (3, .long v3), (5, .int v5), (6, .int v6), (7, .int v7)] → W p l e rm_X5_gather s m ([Value.ref aR, Value.int p1] : List Value).toArray below meth c H locs 0 0 Z (F0 m 18 ls [])) (K33 : Int32 → Int32 → Int64 → Int32 → Int32 → Int32 → Int32 → (Nat → Int32) → (Nat → Int64) → (Nat → Int32) → (Nat → Int32) → Prop) (hK33 : ∀ (v1 : Int32) (v2 : Int32) (v3 : Int64) (v5 : Int32) (v6 : Int32) (v7 : Int32) (v8 : Int32) (r_rest : Nat → Int32) (r_ways : Nat → Int64) (r_inEach : Nat → Int32) (r_inAny : Nat → Int32), K33 v1 v2 v3 v5 v6 v7 v8 r_rest r_ways r_inEach r_inAny → ∀ (H : Heap) (locs : List Loc) (ls : Array Slot), va_P (dC, dI) vwCl (wd_X5 cI cJ cZ cH aH aE aEd aEf aEs aS aSd aSf aSg aR aRu aRr aRw aRe aRa aRf aRs h_rate h_wrap e_days e_firsts e_seconds e_size s_days s_fars s_goods r_until r_rest r_ways r_inEach r_inAny r_firsts r_reasons r_keptInFirst r_swapAt r_swapGood) H → va_D A (wd_X5 cI cJ cZ cH aH aE aEd aEf aEs aS aSd aSf aSg aR aRu aRr aRw aRe aRa aRf aRs h_rate h_wrap e_days e_firsts e_seconds e_size s_days s_fars s_goods r_until r_rest r_ways r_inEach r_inAny r_firsts r_reasons r_keptInFirst r_swapAt r_swapGood) → va_S A s.heap H locs → lv_has ls 11 [(0, .ref aR), (1, .int v1), (2, .int v2), (3, .long v3), (5, .int v5), (6, .int v6), (7, .int v7), (8, .int v8)] → W p l e rm_X5_gather s m ([Value.ref aR, Value.int p1] : List Value).toArray below meth c H locs 0 0 Z (F0 m 33 ls [])), ∀ (v1 : Int32) (v2 : Int32) (v3 : Int64) (v5 : Int32) (v6 : Int32) (v7 : Int32) (v8 : Int32) (r_rest : Nat → Int32) (r_ways : Nat → Int64) (r_inEach : Nat → Int32) (r_inAny : Nat → Int32), wp_X5_gather_b177 h_rate e_size s_days s_fars s_goods Q K18 K33 v1 v2 v3 v5 v6 v7 v8 r_rest r_ways r_inEach r_inAny → ∀ (H : Heap) (locs : List Loc) (ls : Array Slot), va_P (dC, dI) vwCl (wd_X5 cI cJ cZ cH aH aE aEd aEf aEs aS aSd aSf aSg aR aRu aRr aRw aRe aRa aRf aRs h_rate h_wrap e_days e_firsts e_seconds e_size s_days s_fars s_goods r_until r_rest r_ways r_inEach r_inAny r_firsts r_reasons r_keptInFirst r_swapAt r_swapGood) H → va_D A (wd_X5 cI cJ cZ cH aH aE aEd aEf aEs aS aSd aSf aSg aR aRu aRr aRw aRe aRa aRf aRs h_rate h_wrap e_days e_firsts e_seconds e_size s_days s_fars s_goods r_until r_rest r_ways r_inEach r_inAny r_firsts r_reasons r_keptInFirst r_swapAt r_swapGood) → va_S A s.heap H locs → lv_has ls 11 [(0, .ref aR), (1, .int v1), (2, .int v2), (3, .long v3), (5, .int v5), (6, .int v6), (7, .int v7), (8, .int v8)] → W p l e rm_X5_gather s m ([Value.ref aR, Value.int p1] : List Value).toArray below meth c H locs 0 0 Z (F0 m 177 ls []) := by
    intro K18 hK18 K33 hK33 v1 v2 v3 v5 v6 v7 v8 r_rest r_ways r_inEach r_inAny hf H locs ls hP hD hS hl
    unfold wp_X5_gather_b177 at hf
    obtain ⟨x177_4, ex177_4⟩ : ∃ y : Int32, y = v8 + 1 := ⟨_, rfl⟩
    have hf := hf x177_4 ex177_4
    refine lv_iinc (v := x177_4) (lv' := [(8, .int x177_4), (0, .ref aR), (1, .int v1), (2, .int v2), (3, .long v3), (5, .int v5), (6, .int v6), (7, .int v7)]) hx hb dX5_gather_177 hl (k := 7) rfl (by rw [ex177_4]; rfl) (by decide) rfl (fun ls hl => ?_)
    refine lv_goto (tgt := 33) hx hb dX5_gather_180 (by decide) ?_
    exact hK33 v1 v2 v3 v5 v6 v7 x177_4 r_rest r_ways r_inEach r_inAny hf _ _ _ hP hD hS (lv_sub hl [1, 2, 3, 4, 5, 6, 7, 0] rfl)
  have J175 : ∀ (K18 : Int32 → Int32 → Int64 → Int32 → Int32 → Int32 → (Nat → Int32) → (Nat → Int64) → (Nat → Int32) → (Nat → Int32) → Prop) (hK18 : ∀ (v1 : Int32) (v2 : Int32) (v3 : Int64) (v5 : Int32) (v6 : Int32) (v7 : Int32) (r_rest : Nat → Int32) (r_ways : Nat → Int64) (r_inEach : Nat → Int32) (r_inAny : Nat → Int32), K18 v1 v2 v3 v5 v6 v7 r_rest r_ways r_inEach r_inAny → ∀ (H : Heap) (locs : List Loc) (ls : Array Slot), va_P (dC, dI) vwCl (wd_X5 cI cJ cZ cH aH aE aEd aEf aEs aS aSd aSf aSg aR aRu aRr aRw aRe aRa aRf aRs h_rate h_wrap e_days e_firsts e_seconds e_size s_days s_fars s_goods r_until r_rest r_ways r_inEach r_inAny r_firsts r_reasons r_keptInFirst r_swapAt r_swapGood) H → va_D A (wd_X5 cI cJ cZ cH aH aE aEd aEf aEs aS aSd aSf aSg aR aRu aRr aRw aRe aRa aRf aRs h_rate h_wrap e_days e_firsts e_seconds e_size s_days s_fars s_goods r_until r_rest r_ways r_inEach r_inAny r_firsts r_reasons r_keptInFirst r_swapAt r_swapGood) → va_S A s.heap H locs → lv_has ls 11 [(0, .ref aR), (1, .int v1), (2, .int v2), (3, .long v3), (5, .int v5), (6, .int v6), (7, .int v7)] → W p l e rm_X5_gather s m ([Value.ref aR, Value.int p1] : List Value).toArray below meth c H locs 0 0 Z (F0 m 18 ls [])) (K33 : Int32 → Int32 → Int64 → Int32 → Int32 → Int32 → Int32 → (Nat → Int32) → (Nat → Int64) → (Nat → Int32) → (Nat → Int32) → Prop) (hK33 : ∀ (v1 : Int32) (v2 : Int32) (v3 : Int64) (v5 : Int32) (v6 : Int32) (v7 : Int32) (v8 : Int32) (r_rest : Nat → Int32) (r_ways : Nat → Int64) (r_inEach : Nat → Int32) (r_inAny : Nat → Int32), K33 v1 v2 v3 v5 v6 v7 v8 r_rest r_ways r_inEach r_inAny → ∀ (H : Heap) (locs : List Loc) (ls : Array Slot), va_P (dC, dI) vwCl (wd_X5 cI cJ cZ cH aH aE aEd aEf aEs aS aSd aSf aSg aR aRu aRr aRw aRe aRa aRf aRs h_rate h_wrap e_days e_firsts e_seconds e_size s_days s_fars s_goods r_until r_rest r_ways r_inEach r_inAny r_firsts r_reasons r_keptInFirst r_swapAt r_swapGood) H → va_D A (wd_X5 cI cJ cZ cH aH aE aEd aEf aEs aS aSd aSf aSg aR aRu aRr aRw aRe aRa aRf aRs h_rate h_wrap e_days e_firsts e_seconds e_size s_days s_fars s_goods r_until r_rest r_ways r_inEach r_inAny r_firsts r_reasons r_keptInFirst r_swapAt r_swapGood) → va_S A s.heap H locs → lv_has ls 11 [(0, .ref aR), (1, .int v1), (2, .int v2), (3, .long v3), (5, .int v5), (6, .int v6), (7, .int v7), (8, .int v8)] → W p l e rm_X5_gather s m ([Value.ref aR, Value.int p1] : List Value).toArray below meth c H locs 0 0 Z (F0 m 33 ls [])), ∀ (k0 : Int32) (v1 : Int32) (v2 : Int32) (v3 : Int64) (v5 : Int32) (v7 : Int32) (v8 : Int32) (r_rest : Nat → Int32) (r_ways : Nat → Int64) (r_inEach : Nat → Int32) (r_inAny : Nat → Int32), wp_X5_gather_b175 h_rate e_size s_days s_fars s_goods Q K18 K33 k0 v1 v2 v3 v5 v7 v8 r_rest r_ways r_inEach r_inAny → ∀ (H : Heap) (locs : List Loc) (ls : Array Slot), va_P (dC, dI) vwCl (wd_X5 cI cJ cZ cH aH aE aEd aEf aEs aS aSd aSf aSg aR aRu aRr aRw aRe aRa aRf aRs h_rate h_wrap e_days e_firsts e_seconds e_size s_days s_fars s_goods r_until r_rest r_ways r_inEach r_inAny r_firsts r_reasons r_keptInFirst r_swapAt r_swapGood) H → va_D A (wd_X5 cI cJ cZ cH aH aE aEd aEf aEs aS aSd aSf aSg aR aRu aRr aRw aRe aRa aRf aRs h_rate h_wrap e_days e_firsts e_seconds e_size s_days s_fars s_goods r_until r_rest r_ways r_inEach r_inAny r_firsts r_reasons r_keptInFirst r_swapAt r_swapGood) → va_S A s.heap H locs → lv_has ls 11 [(0, .ref aR), (1, .int v1), (2, .int v2), (3, .long v3), (5, .int v5), (7, .int v7), (8, .int v8)] → W p l e rm_X5_gather s m ([Value.ref aR, Value.int p1] : List Value).toArray below meth c H locs 0 0 Z (F0 m 175 ls [.int k0]) := by
    intro K18 hK18 K33 hK33 k0 v1 v2 v3 v5 v7 v8 r_rest r_ways r_inEach r_inAny hf H locs ls hP hD hS hl
    unfold wp_X5_gather_b175 at hf
    refine lv_istore (lv' := [(6, .int k0), (0, .ref aR), (1, .int v1), (2, .int v2), (3, .long v3), (5, .int v5), (7, .int v7), (8, .int v8)]) hx hb dX5_gather_175 hl (by decide) rfl (fun ls hl => ?_)
    exact J177 _ hK18 _ hK33 v1 v2 v3 v5 k0 v7 v8 r_rest r_ways r_inEach r_inAny hf _ _ _ hP hD hS (lv_sub hl [1, 2, 3, 4, 5, 0, 6, 7] rfl)
  have J148 : ∀ (K18 : Int32 → Int32 → Int64 → Int32 → Int32 → Int32 → (Nat → Int32) → (Nat → Int64) → (Nat → Int32) → (Nat → Int32) → Prop) (hK18 : ∀ (v1 : Int32) (v2 : Int32) (v3 : Int64) (v5 : Int32) (v6 : Int32) (v7 : Int32) (r_rest : Nat → Int32) (r_ways : Nat → Int64) (r_inEach : Nat → Int32) (r_inAny : Nat → Int32), K18 v1 v2 v3 v5 v6 v7 r_rest r_ways r_inEach r_inAny → ∀ (H : Heap) (locs : List Loc) (ls : Array Slot), va_P (dC, dI) vwCl (wd_X5 cI cJ cZ cH aH aE aEd aEf aEs aS aSd aSf aSg aR aRu aRr aRw aRe aRa aRf aRs h_rate h_wrap e_days e_firsts e_seconds e_size s_days s_fars s_goods r_until r_rest r_ways r_inEach r_inAny r_firsts r_reasons r_keptInFirst r_swapAt r_swapGood) H → va_D A (wd_X5 cI cJ cZ cH aH aE aEd aEf aEs aS aSd aSf aSg aR aRu aRr aRw aRe aRa aRf aRs h_rate h_wrap e_days e_firsts e_seconds e_size s_days s_fars s_goods r_until r_rest r_ways r_inEach r_inAny r_firsts r_reasons r_keptInFirst r_swapAt r_swapGood) → va_S A s.heap H locs → lv_has ls 11 [(0, .ref aR), (1, .int v1), (2, .int v2), (3, .long v3), (5, .int v5), (6, .int v6), (7, .int v7)] → W p l e rm_X5_gather s m ([Value.ref aR, Value.int p1] : List Value).toArray below meth c H locs 0 0 Z (F0 m 18 ls [])) (K33 : Int32 → Int32 → Int64 → Int32 → Int32 → Int32 → Int32 → (Nat → Int32) → (Nat → Int64) → (Nat → Int32) → (Nat → Int32) → Prop) (hK33 : ∀ (v1 : Int32) (v2 : Int32) (v3 : Int64) (v5 : Int32) (v6 : Int32) (v7 : Int32) (v8 : Int32) (r_rest : Nat → Int32) (r_ways : Nat → Int64) (r_inEach : Nat → Int32) (r_inAny : Nat → Int32), K33 v1 v2 v3 v5 v6 v7 v8 r_rest r_ways r_inEach r_inAny → ∀ (H : Heap) (locs : List Loc) (ls : Array Slot), va_P (dC, dI) vwCl (wd_X5 cI cJ cZ cH aH aE aEd aEf aEs aS aSd aSf aSg aR aRu aRr aRw aRe aRa aRf aRs h_rate h_wrap e_days e_firsts e_seconds e_size s_days s_fars s_goods r_until r_rest r_ways r_inEach r_inAny r_firsts r_reasons r_keptInFirst r_swapAt r_swapGood) H → va_D A (wd_X5 cI cJ cZ cH aH aE aEd aEf aEs aS aSd aSf aSg aR aRu aRr aRw aRe aRa aRf aRs h_rate h_wrap e_days e_firsts e_seconds e_size s_days s_fars s_goods r_until r_rest r_ways r_inEach r_inAny r_firsts r_reasons r_keptInFirst r_swapAt r_swapGood) → va_S A s.heap H locs → lv_has ls 11 [(0, .ref aR), (1, .int v1), (2, .int v2), (3, .long v3), (5, .int v5), (6, .int v6), (7, .int v7), (8, .int v8)] → W p l e rm_X5_gather s m ([Value.ref aR, Value.int p1] : List Value).toArray below meth c H locs 0 0 Z (F0 m 33 ls [])), ∀ (k0 : Int32) (v1 : Int32) (v2 : Int32) (v3 : Int64) (v6 : Int32) (v7 : Int32) (v8 : Int32) (v9 : Int32) (v10 : Int32) (r_rest : Nat → Int32) (r_ways : Nat → Int64) (r_inEach : Nat → Int32) (r_inAny : Nat → Int32), wp_X5_gather_b148 h_rate e_size s_days s_fars s_goods Q K18 K33 k0 v1 v2 v3 v6 v7 v8 v9 v10 r_rest r_ways r_inEach r_inAny → ∀ (H : Heap) (locs : List Loc) (ls : Array Slot), va_P (dC, dI) vwCl (wd_X5 cI cJ cZ cH aH aE aEd aEf aEs aS aSd aSf aSg aR aRu aRr aRw aRe aRa aRf aRs h_rate h_wrap e_days e_firsts e_seconds e_size s_days s_fars s_goods r_until r_rest r_ways r_inEach r_inAny r_firsts r_reasons r_keptInFirst r_swapAt r_swapGood) H → va_D A (wd_X5 cI cJ cZ cH aH aE aEd aEf aEs aS aSd aSf aSg aR aRu aRr aRw aRe aRa aRf aRs h_rate h_wrap e_days e_firsts e_seconds e_size s_days s_fars s_goods r_until r_rest r_ways r_inEach r_inAny r_firsts r_reasons r_keptInFirst r_swapAt r_swapGood) → va_S A s.heap H locs → lv_has ls 11 [(0, .ref aR), (1, .int v1), (2, .int v2), (3, .long v3), (6, .int v6), (7, .int v7), (8, .int v8), (9, .int v9), (10, .int v10)] → W p l e rm_X5_gather s m ([Value.ref aR, Value.int p1] : List Value).toArray below meth c H locs 0 0 Z (F0 m 148 ls [.int k0]) := by
    intro K18 hK18 K33 hK33 k0 v1 v2 v3 v6 v7 v8 v9 v10 r_rest r_ways r_inEach r_inAny hf H locs ls hP hD hS hl
    unfold wp_X5_gather_b148 at hf
    refine lv_istore (lv' := [(5, .int k0), (0, .ref aR), (1, .int v1), (2, .int v2), (3, .long v3), (6, .int v6), (7, .int v7), (8, .int v8), (9, .int v9), (10, .int v10)]) hx hb dX5_gather_148 hl (by decide) rfl (fun ls hl => ?_)
    refine lv_iload hx hb dX5_gather_150 (lv_at hl 9 rfl) ?_
    refine lv_if_eq (tgt := 165) hx hb dX5_gather_152 (by decide) (fun c152 => ?_) (fun c152 => ?_)
    · have hf := hf.1 c152
      refine lv_iload hx hb dX5_gather_165 (lv_at hl 5 rfl) ?_
      refine lv_aload_n hx hb dX5_gather_167 rfl (lv_at hl 1 rfl) ?_
      refine va_get (D := (dC, dI)) (ci := 5) (v := .ref aRa) (C := RX5) (T := TX5) (N := 11) hx hb hts inX5 hown hK hP 9 rfl rfl 5 (by decide) (hts _ kw212) (fun _ h9 => h9) rfl dX5_gather_168 ?_
      refine lv_iload hx hb dX5_gather_171 (lv_at hl 8 rfl) ?_
      obtain ⟨hin, hf⟩ := hf
      refine va_iald hx hb hK hP 14 0 rfl rfl hin dX5_gather_173 ?_
      refine lv_ior hx hb dX5_gather_174 ?_
      exact J175 _ hK18 _ hK33 (v6 ||| (r_inAny v9.toNatClampNeg)) v1 v2 v3 k0 v7 v8 r_rest r_ways r_inEach r_inAny hf _ _ _ hP hD hS (lv_sub hl [1, 2, 3, 4, 0, 6, 7] rfl)
    · have hf := hf.2 c152
      refine lv_aload_n hx hb dX5_gather_155 rfl (lv_at hl 1 rfl) ?_
      refine va_get (D := (dC, dI)) (ci := 5) (v := .ref aRa) (C := RX5) (T := TX5) (N := 11) hx hb hts inX5 hown hK hP 9 rfl rfl 5 (by decide) (hts _ kw212) (fun _ h9 => h9) rfl dX5_gather_156 ?_
      refine lv_iload hx hb dX5_gather_159 (lv_at hl 8 rfl) ?_
      obtain ⟨hin, hf⟩ := hf
      refine va_iald hx hb hK hP 14 0 rfl rfl hin dX5_gather_161 ?_
      refine lv_goto (tgt := 175) hx hb dX5_gather_162 (by decide) ?_
      exact J175 _ hK18 _ hK33 (r_inAny v9.toNatClampNeg) v1 v2 v3 k0 v7 v8 r_rest r_ways r_inEach r_inAny hf _ _ _ hP hD hS (lv_sub hl [1, 2, 3, 4, 0, 6, 7] rfl)
  have J122 : ∀ (K18 : Int32 → Int32 → Int64 → Int32 → Int32 → Int32 → (Nat → Int32) → (Nat → Int64) → (Nat → Int32) → (Nat → Int32) → Prop) (hK18 : ∀ (v1 : Int32) (v2 : Int32) (v3 : Int64) (v5 : Int32) (v6 : Int32) (v7 : Int32) (r_rest : Nat → Int32) (r_ways : Nat → Int64) (r_inEach : Nat → Int32) (r_inAny : Nat → Int32), K18 v1 v2 v3 v5 v6 v7 r_rest r_ways r_inEach r_inAny → ∀ (H : Heap) (locs : List Loc) (ls : Array Slot), va_P (dC, dI) vwCl (wd_X5 cI cJ cZ cH aH aE aEd aEf aEs aS aSd aSf aSg aR aRu aRr aRw aRe aRa aRf aRs h_rate h_wrap e_days e_firsts e_seconds e_size s_days s_fars s_goods r_until r_rest r_ways r_inEach r_inAny r_firsts r_reasons r_keptInFirst r_swapAt r_swapGood) H → va_D A (wd_X5 cI cJ cZ cH aH aE aEd aEf aEs aS aSd aSf aSg aR aRu aRr aRw aRe aRa aRf aRs h_rate h_wrap e_days e_firsts e_seconds e_size s_days s_fars s_goods r_until r_rest r_ways r_inEach r_inAny r_firsts r_reasons r_keptInFirst r_swapAt r_swapGood) → va_S A s.heap H locs → lv_has ls 11 [(0, .ref aR), (1, .int v1), (2, .int v2), (3, .long v3), (5, .int v5), (6, .int v6), (7, .int v7)] → W p l e rm_X5_gather s m ([Value.ref aR, Value.int p1] : List Value).toArray below meth c H locs 0 0 Z (F0 m 18 ls [])) (K33 : Int32 → Int32 → Int64 → Int32 → Int32 → Int32 → Int32 → (Nat → Int32) → (Nat → Int64) → (Nat → Int32) → (Nat → Int32) → Prop) (hK33 : ∀ (v1 : Int32) (v2 : Int32) (v3 : Int64) (v5 : Int32) (v6 : Int32) (v7 : Int32) (v8 : Int32) (r_rest : Nat → Int32) (r_ways : Nat → Int64) (r_inEach : Nat → Int32) (r_inAny : Nat → Int32), K33 v1 v2 v3 v5 v6 v7 v8 r_rest r_ways r_inEach r_inAny → ∀ (H : Heap) (locs : List Loc) (ls : Array Slot), va_P (dC, dI) vwCl (wd_X5 cI cJ cZ cH aH aE aEd aEf aEs aS aSd aSf aSg aR aRu aRr aRw aRe aRa aRf aRs h_rate h_wrap e_days e_firsts e_seconds e_size s_days s_fars s_goods r_until r_rest r_ways r_inEach r_inAny r_firsts r_reasons r_keptInFirst r_swapAt r_swapGood) H → va_D A (wd_X5 cI cJ cZ cH aH aE aEd aEf aEs aS aSd aSf aSg aR aRu aRr aRw aRe aRa aRf aRs h_rate h_wrap e_days e_firsts e_seconds e_size s_days s_fars s_goods r_until r_rest r_ways r_inEach r_inAny r_firsts r_reasons r_keptInFirst r_swapAt r_swapGood) → va_S A s.heap H locs → lv_has ls 11 [(0, .ref aR), (1, .int v1), (2, .int v2), (3, .long v3), (5, .int v5), (6, .int v6), (7, .int v7), (8, .int v8)] → W p l e rm_X5_gather s m ([Value.ref aR, Value.int p1] : List Value).toArray below meth c H locs 0 0 Z (F0 m 33 ls [])), ∀ (k0 : Int64) (v1 : Int32) (v2 : Int32) (v5 : Int32) (v6 : Int32) (v7 : Int32) (v8 : Int32) (v9 : Int32) (v10 : Int32) (r_rest : Nat → Int32) (r_ways : Nat → Int64) (r_inEach : Nat → Int32) (r_inAny : Nat → Int32), wp_X5_gather_b122 h_rate e_size s_days s_fars s_goods Q K18 K33 k0 v1 v2 v5 v6 v7 v8 v9 v10 r_rest r_ways r_inEach r_inAny → ∀ (H : Heap) (locs : List Loc) (ls : Array Slot), va_P (dC, dI) vwCl (wd_X5 cI cJ cZ cH aH aE aEd aEf aEs aS aSd aSf aSg aR aRu aRr aRw aRe aRa aRf aRs h_rate h_wrap e_days e_firsts e_seconds e_size s_days s_fars s_goods r_until r_rest r_ways r_inEach r_inAny r_firsts r_reasons r_keptInFirst r_swapAt r_swapGood) H → va_D A (wd_X5 cI cJ cZ cH aH aE aEd aEf aEs aS aSd aSf aSg aR aRu aRr aRw aRe aRa aRf aRs h_rate h_wrap e_days e_firsts e_seconds e_size s_days s_fars s_goods r_until r_rest r_ways r_inEach r_inAny r_firsts r_reasons r_keptInFirst r_swapAt r_swapGood) → va_S A s.heap H locs → lv_has ls 11 [(0, .ref aR), (1, .int v1), (2, .int v2), (5, .int v5), (6, .int v6), (7, .int v7), (8, .int v8), (9, .int v9), (10, .int v10)] → W p l e rm_X5_gather s m ([Value.ref aR, Value.int p1] : List Value).toArray below meth c H locs 0 0 Z (F0 m 122 ls [.long k0]) := by
    intro K18 hK18 K33 hK33 k0 v1 v2 v5 v6 v7 v8 v9 v10 r_rest r_ways r_inEach r_inAny hf H locs ls hP hD hS hl
    unfold wp_X5_gather_b122 at hf
    refine lv_lstore_n (lv' := [(3, .long k0), (0, .ref aR), (1, .int v1), (2, .int v2), (5, .int v5), (6, .int v6), (7, .int v7), (8, .int v8), (9, .int v9), (10, .int v10)]) hx hb dX5_gather_122 rfl hl (by decide) rfl (fun ls hl => ?_)
    refine lv_iload hx hb dX5_gather_123 (lv_at hl 9 rfl) ?_
    refine lv_if_eq (tgt := 138) hx hb dX5_gather_125 (by decide) (fun c125 => ?_) (fun c125 => ?_)
    · have hf := hf.1 c125
      refine lv_iload hx hb dX5_gather_138 (lv_at hl 4 rfl) ?_
      refine lv_aload_n hx hb dX5_gather_140 rfl (lv_at hl 1 rfl) ?_
      refine va_get (D := (dC, dI)) (ci := 5) (v := .ref aRe) (C := RX5) (T := TX5) (N := 11) hx hb hts inX5 hown hK hP 9 rfl rfl 4 (by decide) (hts _ kw211) (fun _ h9 => h9) rfl dX5_gather_141 ?_
      refine lv_iload hx hb dX5_gather_144 (lv_at hl 8 rfl) ?_
      obtain ⟨hin, hf⟩ := hf
      refine va_iald hx hb hK hP 13 0 rfl rfl hin dX5_gather_146 ?_
      refine lv_iand hx hb dX5_gather_147 ?_
      exact J148 _ hK18 _ hK33 (v5 &&& (r_inEach v9.toNatClampNeg)) v1 v2 k0 v6 v7 v8 v9 v10 r_rest r_ways r_inEach r_inAny hf _ _ _ hP hD hS (lv_sub hl [1, 2, 3, 0, 5, 6, 7, 8, 9] rfl)
    · have hf := hf.2 c125
      refine lv_aload_n hx hb dX5_gather_128 rfl (lv_at hl 1 rfl) ?_
      refine va_get (D := (dC, dI)) (ci := 5) (v := .ref aRe) (C := RX5) (T := TX5) (N := 11) hx hb hts inX5 hown hK hP 9 rfl rfl 4 (by decide) (hts _ kw211) (fun _ h9 => h9) rfl dX5_gather_129 ?_
      refine lv_iload hx hb dX5_gather_132 (lv_at hl 8 rfl) ?_
      obtain ⟨hin, hf⟩ := hf
      refine va_iald hx hb hK hP 13 0 rfl rfl hin dX5_gather_134 ?_
      refine lv_goto (tgt := 148) hx hb dX5_gather_135 (by decide) ?_
      exact J148 _ hK18 _ hK33 (r_inEach v9.toNatClampNeg) v1 v2 k0 v6 v7 v8 v9 v10 r_rest r_ways r_inEach r_inAny hf _ _ _ hP hD hS (lv_sub hl [1, 2, 3, 0, 5, 6, 7, 8, 9] rfl)
  have J88 : ∀ (K18 : Int32 → Int32 → Int64 → Int32 → Int32 → Int32 → (Nat → Int32) → (Nat → Int64) → (Nat → Int32) → (Nat → Int32) → Prop) (hK18 : ∀ (v1 : Int32) (v2 : Int32) (v3 : Int64) (v5 : Int32) (v6 : Int32) (v7 : Int32) (r_rest : Nat → Int32) (r_ways : Nat → Int64) (r_inEach : Nat → Int32) (r_inAny : Nat → Int32), K18 v1 v2 v3 v5 v6 v7 r_rest r_ways r_inEach r_inAny → ∀ (H : Heap) (locs : List Loc) (ls : Array Slot), va_P (dC, dI) vwCl (wd_X5 cI cJ cZ cH aH aE aEd aEf aEs aS aSd aSf aSg aR aRu aRr aRw aRe aRa aRf aRs h_rate h_wrap e_days e_firsts e_seconds e_size s_days s_fars s_goods r_until r_rest r_ways r_inEach r_inAny r_firsts r_reasons r_keptInFirst r_swapAt r_swapGood) H → va_D A (wd_X5 cI cJ cZ cH aH aE aEd aEf aEs aS aSd aSf aSg aR aRu aRr aRw aRe aRa aRf aRs h_rate h_wrap e_days e_firsts e_seconds e_size s_days s_fars s_goods r_until r_rest r_ways r_inEach r_inAny r_firsts r_reasons r_keptInFirst r_swapAt r_swapGood) → va_S A s.heap H locs → lv_has ls 11 [(0, .ref aR), (1, .int v1), (2, .int v2), (3, .long v3), (5, .int v5), (6, .int v6), (7, .int v7)] → W p l e rm_X5_gather s m ([Value.ref aR, Value.int p1] : List Value).toArray below meth c H locs 0 0 Z (F0 m 18 ls [])) (K33 : Int32 → Int32 → Int64 → Int32 → Int32 → Int32 → Int32 → (Nat → Int32) → (Nat → Int64) → (Nat → Int32) → (Nat → Int32) → Prop) (hK33 : ∀ (v1 : Int32) (v2 : Int32) (v3 : Int64) (v5 : Int32) (v6 : Int32) (v7 : Int32) (v8 : Int32) (r_rest : Nat → Int32) (r_ways : Nat → Int64) (r_inEach : Nat → Int32) (r_inAny : Nat → Int32), K33 v1 v2 v3 v5 v6 v7 v8 r_rest r_ways r_inEach r_inAny → ∀ (H : Heap) (locs : List Loc) (ls : Array Slot), va_P (dC, dI) vwCl (wd_X5 cI cJ cZ cH aH aE aEd aEf aEs aS aSd aSf aSg aR aRu aRr aRw aRe aRa aRf aRs h_rate h_wrap e_days e_firsts e_seconds e_size s_days s_fars s_goods r_until r_rest r_ways r_inEach r_inAny r_firsts r_reasons r_keptInFirst r_swapAt r_swapGood) H → va_D A (wd_X5 cI cJ cZ cH aH aE aEd aEf aEs aS aSd aSf aSg aR aRu aRr aRw aRe aRa aRf aRs h_rate h_wrap e_days e_firsts e_seconds e_size s_days s_fars s_goods r_until r_rest r_ways r_inEach r_inAny r_firsts r_reasons r_keptInFirst r_swapAt r_swapGood) → va_S A s.heap H locs → lv_has ls 11 [(0, .ref aR), (1, .int v1), (2, .int v2), (3, .long v3), (5, .int v5), (6, .int v6), (7, .int v7), (8, .int v8)] → W p l e rm_X5_gather s m ([Value.ref aR, Value.int p1] : List Value).toArray below meth c H locs 0 0 Z (F0 m 33 ls [])), ∀ (k0 : Int32) (v1 : Int32) (v3 : Int64) (v5 : Int32) (v6 : Int32) (v7 : Int32) (v8 : Int32) (v9 : Int32) (r_rest : Nat → Int32) (r_ways : Nat → Int64) (r_inEach : Nat → Int32) (r_inAny : Nat → Int32), wp_X5_gather_b88 h_rate e_size s_days s_fars s_goods Q K18 K33 k0 v1 v3 v5 v6 v7 v8 v9 r_rest r_ways r_inEach r_inAny → ∀ (H : Heap) (locs : List Loc) (ls : Array Slot), va_P (dC, dI) vwCl (wd_X5 cI cJ cZ cH aH aE aEd aEf aEs aS aSd aSf aSg aR aRu aRr aRw aRe aRa aRf aRs h_rate h_wrap e_days e_firsts e_seconds e_size s_days s_fars s_goods r_until r_rest r_ways r_inEach r_inAny r_firsts r_reasons r_keptInFirst r_swapAt r_swapGood) H → va_D A (wd_X5 cI cJ cZ cH aH aE aEd aEf aEs aS aSd aSf aSg aR aRu aRr aRw aRe aRa aRf aRs h_rate h_wrap e_days e_firsts e_seconds e_size s_days s_fars s_goods r_until r_rest r_ways r_inEach r_inAny r_firsts r_reasons r_keptInFirst r_swapAt r_swapGood) → va_S A s.heap H locs → lv_has ls 11 [(0, .ref aR), (1, .int v1), (3, .long v3), (5, .int v5), (6, .int v6), (7, .int v7), (8, .int v8), (9, .int v9)] → W p l e rm_X5_gather s m ([Value.ref aR, Value.int p1] : List Value).toArray below meth c H locs 0 0 Z (F0 m 88 ls [.int k0]) := by
    intro K18 hK18 K33 hK33 k0 v1 v3 v5 v6 v7 v8 v9 r_rest r_ways r_inEach r_inAny hf H locs ls hP hD hS hl
    unfold wp_X5_gather_b88 at hf
    refine lv_istore (lv' := [(10, .int k0), (0, .ref aR), (1, .int v1), (3, .long v3), (5, .int v5), (6, .int v6), (7, .int v7), (8, .int v8), (9, .int v9)]) hx hb dX5_gather_88 hl (by decide) rfl (fun ls hl => ?_)
    refine lv_aload_n hx hb dX5_gather_90 rfl (lv_at hl 1 rfl) ?_
    refine va_get (D := (dC, dI)) (ci := 5) (v := .ref aRr) (C := RX5) (T := TX5) (N := 11) hx hb hts inX5 hown hK hP 9 rfl rfl 2 (by decide) (hts _ kw209) (fun _ h9 => h9) rfl dX5_gather_91 ?_
    refine lv_iload hx hb dX5_gather_94 (lv_at hl 8 rfl) ?_
    obtain ⟨hin, hf⟩ := hf
    refine va_iald hx hb hK hP 11 0 rfl rfl hin dX5_gather_96 ?_
    refine lv_topi (fun x97_5 ex97_5 => ?_)
    have hf := hf x97_5 ex97_5
    refine lv_istore_n (lv' := [(2, .int x97_5), (10, .int k0), (0, .ref aR), (1, .int v1), (3, .long v3), (5, .int v5), (6, .int v6), (7, .int v7), (8, .int v8), (9, .int v9)]) hx hb dX5_gather_97 rfl hl (by decide) rfl (fun ls hl => ?_)
    refine lv_iload hx hb dX5_gather_98 (lv_at hl 1 rfl) ?_
    refine lv_if_eq (tgt := 113) hx hb dX5_gather_100 (by decide) (fun c100 => ?_) (fun c100 => ?_)
    · have hf := hf.1 c100
      refine lv_lload_n hx hb dX5_gather_113 rfl (lv_at hl 4 rfl) ?_
      refine lv_aload_n hx hb dX5_gather_114 rfl (lv_at hl 2 rfl) ?_
      refine va_get (D := (dC, dI)) (ci := 5) (v := .ref aRw) (C := RX5) (T := TX5) (N := 11) hx hb hts inX5 hown hK hP 9 rfl rfl 3 (by decide) (hts _ kw210) (fun _ h9 => h9) rfl dX5_gather_115 ?_
      refine lv_iload hx hb dX5_gather_118 (lv_at hl 9 rfl) ?_
      obtain ⟨hin, hf⟩ := hf
      refine va_lald hx hb hK hP 12 1 rfl rfl hin dX5_gather_120 ?_
      refine lv_ladd hx hb dX5_gather_121 ?_
      exact J122 _ hK18 _ hK33 (v3 + (r_ways v9.toNatClampNeg)) v1 x97_5 v5 v6 v7 v8 v9 k0 r_rest r_ways r_inEach r_inAny hf _ _ _ hP hD hS (lv_sub hl [2, 3, 0, 5, 6, 7, 8, 9, 1] rfl)
    · have hf := hf.2 c100
      refine lv_aload_n hx hb dX5_gather_103 rfl (lv_at hl 2 rfl) ?_
      refine va_get (D := (dC, dI)) (ci := 5) (v := .ref aRw) (C := RX5) (T := TX5) (N := 11) hx hb hts inX5 hown hK hP 9 rfl rfl 3 (by decide) (hts _ kw210) (fun _ h9 => h9) rfl dX5_gather_104 ?_
      refine lv_iload hx hb dX5_gather_107 (lv_at hl 9 rfl) ?_
      obtain ⟨hin, hf⟩ := hf
      refine va_lald hx hb hK hP 12 1 rfl rfl hin dX5_gather_109 ?_
      refine lv_goto (tgt := 122) hx hb dX5_gather_110 (by decide) ?_
      exact J122 _ hK18 _ hK33 (r_ways v9.toNatClampNeg) v1 x97_5 v5 v6 v7 v8 v9 k0 r_rest r_ways r_inEach r_inAny hf _ _ _ hP hD hS (lv_sub hl [2, 3, 0, 5, 6, 7, 8, 9, 1] rfl)
  have L33 : ∀ (K18 : Int32 → Int32 → Int64 → Int32 → Int32 → Int32 → (Nat → Int32) → (Nat → Int64) → (Nat → Int32) → (Nat → Int32) → Prop) (hK18 : ∀ (v1 : Int32) (v2 : Int32) (v3 : Int64) (v5 : Int32) (v6 : Int32) (v7 : Int32) (r_rest : Nat → Int32) (r_ways : Nat → Int64) (r_inEach : Nat → Int32) (r_inAny : Nat → Int32), K18 v1 v2 v3 v5 v6 v7 r_rest r_ways r_inEach r_inAny → ∀ (H : Heap) (locs : List Loc) (ls : Array Slot), va_P (dC, dI) vwCl (wd_X5 cI cJ cZ cH aH aE aEd aEf aEs aS aSd aSf aSg aR aRu aRr aRw aRe aRa aRf aRs h_rate h_wrap e_days e_firsts e_seconds e_size s_days s_fars s_goods r_until r_rest r_ways r_inEach r_inAny r_firsts r_reasons r_keptInFirst r_swapAt r_swapGood) H → va_D A (wd_X5 cI cJ cZ cH aH aE aEd aEf aEs aS aSd aSf aSg aR aRu aRr aRw aRe aRa aRf aRs h_rate h_wrap e_days e_firsts e_seconds e_size s_days s_fars s_goods r_until r_rest r_ways r_inEach r_inAny r_firsts r_reasons r_keptInFirst r_swapAt r_swapGood) → va_S A s.heap H locs → lv_has ls 11 [(0, .ref aR), (1, .int v1), (2, .int v2), (3, .long v3), (5, .int v5), (6, .int v6), (7, .int v7)] → W p l e rm_X5_gather s m ([Value.ref aR, Value.int p1] : List Value).toArray below meth c H locs 0 0 Z (F0 m 18 ls [])), ∀ (n : Nat) (v1 : Int32) (v2 : Int32) (v3 : Int64) (v5 : Int32) (v6 : Int32) (v7 : Int32) (v8 : Int32) (r_rest : Nat → Int32) (r_ways : Nat → Int64) (r_inEach : Nat → Int32) (r_inAny : Nat → Int32), wp_X5_gather_h33 h_rate e_size s_days s_fars s_goods Q K18 n v1 v2 v3 v5 v6 v7 v8 r_rest r_ways r_inEach r_inAny → ∀ (H : Heap) (locs : List Loc) (ls : Array Slot), va_P (dC, dI) vwCl (wd_X5 cI cJ cZ cH aH aE aEd aEf aEs aS aSd aSf aSg aR aRu aRr aRw aRe aRa aRf aRs h_rate h_wrap e_days e_firsts e_seconds e_size s_days s_fars s_goods r_until r_rest r_ways r_inEach r_inAny r_firsts r_reasons r_keptInFirst r_swapAt r_swapGood) H → va_D A (wd_X5 cI cJ cZ cH aH aE aEd aEf aEs aS aSd aSf aSg aR aRu aRr aRw aRe aRa aRf aRs h_rate h_wrap e_days e_firsts e_seconds e_size s_days s_fars s_goods r_until r_rest r_ways r_inEach r_inAny r_firsts r_reasons r_keptInFirst r_swapAt r_swapGood) → va_S A s.heap H locs → lv_has ls 11 [(0, .ref aR), (1, .int v1), (2, .int v2), (3, .long v3), (5, .int v5), (6, .int v6), (7, .int v7), (8, .int v8)] → W p l e rm_X5_gather s m ([Value.ref aR, Value.int p1] : List Value).toArray below meth c H locs 0 0 Z (F0 m 33 ls []) := by
    intro K18 hK18
    intro n
    induction n with
    | zero =>
      intro v1 v2 v3 v5 v6 v7 v8 r_rest r_ways r_inEach r_inAny hf
      exact False.elim hf
    | succ n hK33 =>
      intro v1 v2 v3 v5 v6 v7 v8 r_rest r_ways r_inEach r_inAny hf H locs ls hP hD hS hl
      simp only [wp_X5_gather_h33] at hf
      refine lv_iload hx hb dX5_gather_33 (lv_at hl 7 rfl) ?_
      refine lv_iconst (v := 2) hx hb dX5_gather_35 (by decide) ?_
      refine lv_icmp_ge (tgt := 183) hx hb dX5_gather_36 (by decide) (fun c36 => ?_) (fun c36 => ?_)
      · have hf := hf.1 c36
        obtain ⟨x183_6, ex183_6⟩ : ∃ y : Int32, y = v7 + 1 := ⟨_, rfl⟩
        have hf := hf x183_6 ex183_6
        refine lv_iinc (v := x183_6) (lv' := [(7, .int x183_6), (0, .ref aR), (1, .int v1), (2, .int v2), (3, .long v3), (5, .int v5), (6, .int v6), (8, .int v8)]) hx hb dX5_gather_183 hl (k := 6) rfl (by rw [ex183_6]; rfl) (by decide) rfl (fun ls hl => ?_)
        refine lv_goto (tgt := 18) hx hb dX5_gather_186 (by decide) ?_
        exact hK18 v1 v2 v3 v5 v6 x183_6 r_rest r_ways r_inEach r_inAny hf _ _ _ hP hD hS (lv_sub hl [1, 2, 3, 4, 5, 6, 0] rfl)
      · have hf := hf.2 c36
        refine lv_aload_n hx hb dX5_gather_39 rfl (lv_at hl 0 rfl) ?_
        refine va_get (D := (dC, dI)) (ci := 5) (v := .ref aS) (C := RX5) (T := TX5) (N := 11) hx hb hts inX5 hown hK hP 9 rfl rfl 0 (by decide) (hts _ kw207) (fun _ h9 => h9) rfl dX5_gather_40 ?_
        refine lv_iload_n hx hb dX5_gather_43 rfl (lv_at hl 1 rfl) ?_
        refine lv_iload hx hb dX5_gather_44 (lv_at hl 6 rfl) ?_
        refine lv_iload hx hb dX5_gather_46 (lv_at hl 7 rfl) ?_
        refine mk_i (w2 := fun u : Unit => wd_X5 cI cJ cZ cH aH aE aEd aEf aEs aS aSd aSf aSg aR aRu aRr aRw aRe aRa aRf aRs h_rate h_wrap e_days e_firsts e_seconds e_size s_days s_fars s_goods r_until r_rest r_ways r_inEach r_inAny r_firsts r_reasons r_keptInFirst r_swapAt r_swapGood) (wc := wd_X6 cI cJ cZ cH aH aE aEd aEf aEs aS aSd aSf aSg h_rate h_wrap e_days e_firsts e_seconds e_size s_days s_fars s_goods) hP hD hS hA [0, 1, 2, 3, 4, 5, 6, 7, 8] [9, 10, 11, 12, 13, 14, 15, 16] [8, 9, 10, 11, 12, 13, 14, 15, 16, 0, 1, 2, 3, 4, 5, 6, 7] rfl rfl rfl rfl (by decide) rfl (fun _ => rfl) (fun hPc hDc => va_runV (As := [.int v1, .int v7, .int v8]) (rest := []) ⟨hx, hb, hml, hown, hts⟩ (c_X6_following l dC dI cI cJ cZ cH aH aE aEd aEf aEs aS aSd aSf aSg H.size h_rate h_wrap e_days e_firsts e_seconds e_size s_days s_fars s_goods v1 v7 v8 hf) (cwV 3 hts (gV kw309 kw310 kw311 kw7 kw312) rfl rfl rfl (by decide +kernel) ⟨Nat.le_of_ble_eq_true rfl, Nat.le_of_ble_eq_true rfl⟩) ⟨PX_blind, va_recv hK hPc (ci := 6) (q0 := 5) rfl rfl, PX_pre hPc hDc hK hN⟩ rfl rfl hl.1 rfl (lv_room (Nat.le_of_ble_eq_true rfl)) dX5_gather_48 ⟨Nat.le_of_ble_eq_true rfl, Nat.le_of_ble_eq_true rfl⟩) (fun r48_7 u H locs hf hP hD hS => ?_)
        try dsimp only at hf
        have hP : va_P (dC, dI) vwCl (wd_X5 cI cJ cZ cH aH aE aEd aEf aEs aS aSd aSf aSg aR aRu aRr aRw aRe aRa aRf aRs h_rate h_wrap e_days e_firsts e_seconds e_size s_days s_fars s_goods r_until r_rest r_ways r_inEach r_inAny r_firsts r_reasons r_keptInFirst r_swapAt r_swapGood) H := hP
        have hD : va_D A (wd_X5 cI cJ cZ cH aH aE aEd aEf aEs aS aSd aSf aSg aR aRu aRr aRw aRe aRa aRf aRs h_rate h_wrap e_days e_firsts e_seconds e_size s_days s_fars s_goods r_until r_rest r_ways r_inEach r_inAny r_firsts r_reasons r_keptInFirst r_swapAt r_swapGood) := hD
        refine lv_istore (lv' := [(9, .int r48_7), (0, .ref aR), (1, .int v1), (2, .int v2), (3, .long v3), (5, .int v5), (6, .int v6), (7, .int v7), (8, .int v8)]) hx hb dX5_gather_51 hl (by decide) rfl (fun ls hl => ?_)
        refine lv_iload hx hb dX5_gather_53 (lv_at hl 0 rfl) ?_
        refine lv_if_lt (tgt := 177) hx hb dX5_gather_55 (by decide) (fun c55 => ?_) (fun c55 => ?_)
        · have hf := hf.1 c55
          exact J177 _ hK18 _ hK33 v1 v2 v3 v5 v6 v7 v8 r_rest r_ways r_inEach r_inAny hf _ _ _ hP hD hS (lv_sub hl [1, 2, 3, 4, 5, 6, 7, 8] rfl)
        · have hf := hf.2 c55
          refine lv_aload_n hx hb dX5_gather_58 rfl (lv_at hl 1 rfl) ?_
          refine va_get (D := (dC, dI)) (ci := 5) (v := .ref aRr) (C := RX5) (T := TX5) (N := 11) hx hb hts inX5 hown hK hP 9 rfl rfl 2 (by decide) (hts _ kw209) (fun _ h9 => h9) rfl dX5_gather_59 ?_
          refine lv_iload hx hb dX5_gather_62 (lv_at hl 0 rfl) ?_
          obtain ⟨hin, hf⟩ := hf
          refine va_iald hx hb hK hP 11 0 rfl rfl hin dX5_gather_64 ?_
          refine lv_iload_n hx hb dX5_gather_65 rfl (lv_at hl 3 rfl) ?_
          refine lv_icmp_ge (tgt := 72) hx hb dX5_gather_66 (by decide) (fun c66 => ?_) (fun c66 => ?_)
          · have hf := hf.1 c66
            refine lv_aload_n hx hb dX5_gather_72 rfl (lv_at hl 1 rfl) ?_
            refine va_get (D := (dC, dI)) (ci := 5) (v := .ref aRr) (C := RX5) (T := TX5) (N := 11) hx hb hts inX5 hown hK hP 9 rfl rfl 2 (by decide) (hts _ kw209) (fun _ h9 => h9) rfl dX5_gather_73 ?_
            refine lv_iload hx hb dX5_gather_76 (lv_at hl 0 rfl) ?_
            obtain ⟨hin, hf⟩ := hf
            refine va_iald hx hb hK hP 11 0 rfl rfl hin dX5_gather_78 ?_
            refine lv_iload_n hx hb dX5_gather_79 rfl (lv_at hl 3 rfl) ?_
            refine lv_icmp_le (tgt := 87) hx hb dX5_gather_80 (by decide) (fun c80 => ?_) (fun c80 => ?_)
            · have hf := hf.1 c80
              refine lv_iconst (v := 0) hx hb dX5_gather_87 (by decide) ?_
              exact J88 _ hK18 _ hK33 (0 : Int32) v1 v3 v5 v6 v7 v8 r48_7 r_rest r_ways r_inEach r_inAny hf _ _ _ hP hD hS (lv_sub hl [1, 2, 4, 5, 6, 7, 8, 0] rfl)
            · have hf := hf.2 c80
              refine lv_iconst (v := 1) hx hb dX5_gather_83 (by decide) ?_
              refine lv_goto (tgt := 88) hx hb dX5_gather_84 (by decide) ?_
              exact J88 _ hK18 _ hK33 (1 : Int32) v1 v3 v5 v6 v7 v8 r48_7 r_rest r_ways r_inEach r_inAny hf _ _ _ hP hD hS (lv_sub hl [1, 2, 4, 5, 6, 7, 8, 0] rfl)
          · have hf := hf.2 c66
            refine lv_goto (tgt := 177) hx hb dX5_gather_69 (by decide) ?_
            exact J177 _ hK18 _ hK33 v1 v2 v3 v5 v6 v7 v8 r_rest r_ways r_inEach r_inAny hf _ _ _ hP hD hS (lv_sub hl [1, 2, 3, 4, 5, 6, 7, 8] rfl)
  have L18 : ∀ (n : Nat) (v1 : Int32) (v2 : Int32) (v3 : Int64) (v5 : Int32) (v6 : Int32) (v7 : Int32) (r_rest : Nat → Int32) (r_ways : Nat → Int64) (r_inEach : Nat → Int32) (r_inAny : Nat → Int32), wp_X5_gather_h18 h_rate e_size s_days s_fars s_goods Q  n v1 v2 v3 v5 v6 v7 r_rest r_ways r_inEach r_inAny → ∀ (H : Heap) (locs : List Loc) (ls : Array Slot), va_P (dC, dI) vwCl (wd_X5 cI cJ cZ cH aH aE aEd aEf aEs aS aSd aSf aSg aR aRu aRr aRw aRe aRa aRf aRs h_rate h_wrap e_days e_firsts e_seconds e_size s_days s_fars s_goods r_until r_rest r_ways r_inEach r_inAny r_firsts r_reasons r_keptInFirst r_swapAt r_swapGood) H → va_D A (wd_X5 cI cJ cZ cH aH aE aEd aEf aEs aS aSd aSf aSg aR aRu aRr aRw aRe aRa aRf aRs h_rate h_wrap e_days e_firsts e_seconds e_size s_days s_fars s_goods r_until r_rest r_ways r_inEach r_inAny r_firsts r_reasons r_keptInFirst r_swapAt r_swapGood) → va_S A s.heap H locs → lv_has ls 11 [(0, .ref aR), (1, .int v1), (2, .int v2), (3, .long v3), (5, .int v5), (6, .int v6), (7, .int v7)] → W p l e rm_X5_gather s m ([Value.ref aR, Value.int p1] : List Value).toArray below meth c H locs 0 0 Z (F0 m 18 ls []) := by
    intro n
    induction n with
    | zero =>
      intro v1 v2 v3 v5 v6 v7 r_rest r_ways r_inEach r_inAny hf
      exact False.elim hf
    | succ n hK18 =>
      intro v1 v2 v3 v5 v6 v7 r_rest r_ways r_inEach r_inAny hf H locs ls hP hD hS hl
      simp only [wp_X5_gather_h18] at hf
      refine lv_iload hx hb dX5_gather_18 (lv_at hl 6 rfl) ?_
      refine lv_aload_n hx hb dX5_gather_20 rfl (lv_at hl 0 rfl) ?_
      refine va_get (D := (dC, dI)) (ci := 5) (v := .ref aS) (C := RX5) (T := TX5) (N := 11) hx hb hts inX5 hown hK hP 9 rfl rfl 0 (by decide) (hts _ kw207) (fun _ h9 => h9) rfl dX5_gather_21 ?_
      refine mk_i (w2 := fun u : Unit => wd_X5 cI cJ cZ cH aH aE aEd aEf aEs aS aSd aSf aSg aR aRu aRr aRw aRe aRa aRf aRs h_rate h_wrap e_days e_firsts e_seconds e_size s_days s_fars s_goods r_until r_rest r_ways r_inEach r_inAny r_firsts r_reasons r_keptInFirst r_swapAt r_swapGood) (wc := wd_X6 cI cJ cZ cH aH aE aEd aEf aEs aS aSd aSf aSg h_rate h_wrap e_days e_firsts e_seconds e_size s_days s_fars s_goods) hP hD hS hA [0, 1, 2, 3, 4, 5, 6, 7, 8] [9, 10, 11, 12, 13, 14, 15, 16] [8, 9, 10, 11, 12, 13, 14, 15, 16, 0, 1, 2, 3, 4, 5, 6, 7] rfl rfl rfl rfl (by decide) rfl (fun _ => rfl) (fun hPc hDc => va_runV (As := []) (rest := [.int v7]) ⟨hx, hb, hml, hown, hts⟩ (c_X6_size l dC dI cI cJ cZ cH aH aE aEd aEf aEs aS aSd aSf aSg H.size h_rate h_wrap e_days e_firsts e_seconds e_size s_days s_fars s_goods hf) (cwV 0 hts (gV kw308 kw298 kw299 kw7 kw300) rfl rfl rfl (by decide +kernel) ⟨Nat.le_of_ble_eq_true rfl, Nat.le_of_ble_eq_true rfl⟩) ⟨PX_blind, va_recv hK hPc (ci := 6) (q0 := 5) rfl rfl, PX_pre hPc hDc hK hN⟩ rfl rfl hl.1 rfl (lv_room (Nat.le_of_ble_eq_true rfl)) dX5_gather_24 ⟨Nat.le_of_ble_eq_true rfl, Nat.le_of_ble_eq_true rfl⟩) (fun r24_8 u H locs hf hP hD hS => ?_)
      try dsimp only at hf
      have hP : va_P (dC, dI) vwCl (wd_X5 cI cJ cZ cH aH aE aEd aEf aEs aS aSd aSf aSg aR aRu aRr aRw aRe aRa aRf aRs h_rate h_wrap e_days e_firsts e_seconds e_size s_days s_fars s_goods r_until r_rest r_ways r_inEach r_inAny r_firsts r_reasons r_keptInFirst r_swapAt r_swapGood) H := hP
      have hD : va_D A (wd_X5 cI cJ cZ cH aH aE aEd aEf aEs aS aSd aSf aSg aR aRu aRr aRw aRe aRa aRf aRs h_rate h_wrap e_days e_firsts e_seconds e_size s_days s_fars s_goods r_until r_rest r_ways r_inEach r_inAny r_firsts r_reasons r_keptInFirst r_swapAt r_swapGood) := hD
      refine lv_icmp_ge (tgt := 189) hx hb dX5_gather_27 (by decide) (fun c27 => ?_) (fun c27 => ?_)
      · have hf := hf.1 c27
        refine lv_iload_n hx hb dX5_gather_189 rfl (lv_at hl 1 rfl) ?_
        refine lv_if_ne (tgt := 197) hx hb dX5_gather_190 (by decide) (fun c190 => ?_) (fun c190 => ?_)
        · have hf := hf.1 c190
          refine lv_iconst (v := 1) hx hb dX5_gather_197 (by decide) ?_
          refine lv_iload_n hx hb dX5_gather_198 rfl (lv_at hl 1 rfl) ?_
          refine mk_i (w2 := fun u : Unit => wd_X5 cI cJ cZ cH aH aE aEd aEf aEs aS aSd aSf aSg aR aRu aRr aRw aRe aRa aRf aRs h_rate h_wrap e_days e_firsts e_seconds e_size s_days s_fars s_goods r_until r_rest r_ways r_inEach r_inAny r_firsts r_reasons r_keptInFirst r_swapAt r_swapGood) (wc := wd_E cI cJ cZ cH ) hP hD hS hA [] [0, 1, 2, 3, 4, 5, 6, 7, 8, 9, 10, 11, 12, 13, 14, 15, 16] [0, 1, 2, 3, 4, 5, 6, 7, 8, 9, 10, 11, 12, 13, 14, 15, 16] rfl rfl rfl rfl (by decide) rfl (fun _ => rfl) (fun hPc hDc => va_runS (As := [.int v1]) (rest := [.int (1 : Int32)]) ⟨hx, hb, hml, hown, hts⟩ (c_X6_readingOf l dC dI cI cJ cZ cH H.size v1 hf) (va_cwS 1 hts (gS kw305 kw306 kw7 kw307) rfl rfl rfl (by decide +kernel) ⟨Nat.le_of_ble_eq_true rfl, Nat.le_of_ble_eq_true rfl⟩) ⟨PX_blind, PX_pre hPc hDc hK hN⟩ rfl rfl hl.1 rfl (lv_room (Nat.le_of_ble_eq_true rfl)) dX5_gather_199 ⟨Nat.le_of_ble_eq_true rfl, Nat.le_of_ble_eq_true rfl⟩) (fun r199_9 u H locs hf hP hD hS => ?_)
          try dsimp only at hf
          have hP : va_P (dC, dI) vwCl (wd_X5 cI cJ cZ cH aH aE aEd aEf aEs aS aSd aSf aSg aR aRu aRr aRw aRe aRa aRf aRs h_rate h_wrap e_days e_firsts e_seconds e_size s_days s_fars s_goods r_until r_rest r_ways r_inEach r_inAny r_firsts r_reasons r_keptInFirst r_swapAt r_swapGood) H := hP
          have hD : va_D A (wd_X5 cI cJ cZ cH aH aE aEd aEf aEs aS aSd aSf aSg aR aRu aRr aRw aRe aRa aRf aRs h_rate h_wrap e_days e_firsts e_seconds e_size s_days s_fars s_goods r_until r_rest r_ways r_inEach r_inAny r_firsts r_reasons r_keptInFirst r_swapAt r_swapGood) := hD
          refine lv_ishl hx hb dX5_gather_202 ?_
          exact J203  ((1 : Int32) <<< (r199_9 &&& 31)) v1 v2 v3 v5 v6 r_rest r_ways r_inEach r_inAny hf _ _ _ hP hD hS (lv_sub hl [0, 1, 2, 3, 4, 5] rfl)
        · have hf := hf.2 c190
          refine lv_iconst (v := 0) hx hb dX5_gather_193 (by decide) ?_
          refine lv_goto (tgt := 203) hx hb dX5_gather_194 (by decide) ?_
          exact J203  (0 : Int32) v1 v2 v3 v5 v6 r_rest r_ways r_inEach r_inAny hf _ _ _ hP hD hS (lv_sub hl [0, 1, 2, 3, 4, 5] rfl)
      · have hf := hf.2 c27
        refine lv_iconst (v := 0) hx hb dX5_gather_30 (by decide) ?_
        refine lv_istore (lv' := [(8, .int (0 : Int32)), (0, .ref aR), (1, .int v1), (2, .int v2), (3, .long v3), (5, .int v5), (6, .int v6), (7, .int v7)]) hx hb dX5_gather_31 hl (by decide) rfl (fun ls hl => ?_)
        obtain ⟨n9, hf⟩ := hf
        exact L33 _ hK18 n9 v1 v2 v3 v5 v6 v7 (0 : Int32) r_rest r_ways r_inEach r_inAny hf _ _ _ hP hD hS (lv_sub hl [1, 2, 3, 4, 5, 6, 7, 0] rfl)
  unfold wp_X5_gather at hf
  refine lv_iconst (v := 0) hx hb dX5_gather_0 (by decide) ?_
  refine lv_istore_n (lv' := [(2, .int (0 : Int32)), (0, .ref aR), (1, .int p1)]) hx hb dX5_gather_1 rfl hl (by decide) rfl (fun ls hl => ?_)
  refine lv_lconst (v := 1) hx hb dX5_gather_2 (by decide) ?_
  refine lv_lstore_n (lv' := [(3, .long (1 : Int64)), (2, .int (0 : Int32)), (0, .ref aR), (1, .int p1)]) hx hb dX5_gather_3 rfl hl (by decide) rfl (fun ls hl => ?_)
  refine lv_iconst (v := 0) hx hb dX5_gather_4 (by decide) ?_
  refine lv_istore (lv' := [(5, .int (0 : Int32)), (3, .long (1 : Int64)), (2, .int (0 : Int32)), (0, .ref aR), (1, .int p1)]) hx hb dX5_gather_5 hl (by decide) rfl (fun ls hl => ?_)
  refine lv_iconst (v := 0) hx hb dX5_gather_7 (by decide) ?_
  refine lv_istore (lv' := [(6, .int (0 : Int32)), (5, .int (0 : Int32)), (3, .long (1 : Int64)), (2, .int (0 : Int32)), (0, .ref aR), (1, .int p1)]) hx hb dX5_gather_8 hl (by decide) rfl (fun ls hl => ?_)
  refine lv_iload_n hx hb dX5_gather_10 rfl (lv_at hl 5 rfl) ?_
  refine mk_i (w2 := fun u : Unit => wd_X5 cI cJ cZ cH aH aE aEd aEf aEs aS aSd aSf aSg aR aRu aRr aRw aRe aRa aRf aRs h_rate h_wrap e_days e_firsts e_seconds e_size s_days s_fars s_goods r_until r_rest r_ways r_inEach r_inAny r_firsts r_reasons r_keptInFirst r_swapAt r_swapGood) (wc := wd_E cI cJ cZ cH ) hP hD hS hA [] [0, 1, 2, 3, 4, 5, 6, 7, 8, 9, 10, 11, 12, 13, 14, 15, 16] [0, 1, 2, 3, 4, 5, 6, 7, 8, 9, 10, 11, 12, 13, 14, 15, 16] rfl rfl rfl rfl (by decide) rfl (fun _ => rfl) (fun hPc hDc => va_runS (As := [.int p1]) (rest := []) ⟨hx, hb, hml, hown, hts⟩ (c_X6_readingOf l dC dI cI cJ cZ cH s.heap.size p1 hf) (va_cwS 1 hts (gS kw305 kw306 kw7 kw307) rfl rfl rfl (by decide +kernel) ⟨Nat.le_of_ble_eq_true rfl, Nat.le_of_ble_eq_true rfl⟩) ⟨PX_blind, PX_pre hPc hDc hK hN⟩ rfl rfl hl.1 rfl (lv_room (Nat.le_of_ble_eq_true rfl)) dX5_gather_11 ⟨Nat.le_of_ble_eq_true rfl, Nat.le_of_ble_eq_true rfl⟩) (fun r11_10 u H locs hf hP hD hS => ?_)
  try dsimp only at hf
  have hP : va_P (dC, dI) vwCl (wd_X5 cI cJ cZ cH aH aE aEd aEf aEs aS aSd aSf aSg aR aRu aRr aRw aRe aRa aRf aRs h_rate h_wrap e_days e_firsts e_seconds e_size s_days s_fars s_goods r_until r_rest r_ways r_inEach r_inAny r_firsts r_reasons r_keptInFirst r_swapAt r_swapGood) H := hP
  have hD : va_D A (wd_X5 cI cJ cZ cH aH aE aEd aEf aEs aS aSd aSf aSg aR aRu aRr aRw aRe aRa aRf aRs h_rate h_wrap e_days e_firsts e_seconds e_size s_days s_fars s_goods r_until r_rest r_ways r_inEach r_inAny r_firsts r_reasons r_keptInFirst r_swapAt r_swapGood) := hD
  refine lv_iconst (v := 1) hx hb dX5_gather_14 (by decide) ?_
  refine lv_iadd hx hb dX5_gather_15 ?_
  refine lv_topi (fun x16_11 ex16_11 => ?_)
  have hf := hf x16_11 ex16_11
  refine lv_istore (lv' := [(7, .int x16_11), (6, .int (0 : Int32)), (5, .int (0 : Int32)), (3, .long (1 : Int64)), (2, .int (0 : Int32)), (0, .ref aR), (1, .int p1)]) hx hb dX5_gather_16 hl (by decide) rfl (fun ls hl => ?_)
  obtain ⟨n9, hf⟩ := hf
  exact L18  n9 p1 (0 : Int32) (1 : Int64) (0 : Int32) (0 : Int32) x16_11 r_rest r_ways r_inEach r_inAny hf _ _ _ hP hD hS (lv_sub hl [5, 6, 4, 3, 2, 1, 0] rfl)
