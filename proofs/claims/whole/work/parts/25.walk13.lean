abbrev rm_J6_numberOfTrailingZeros_0f7a4 : Room := { frames := 0, cells := 0, slots := 0, locals := 0 }
set_option maxHeartbeats 4000000 in
set_option maxRecDepth 100000 in
theorem c_J6_numberOfTrailingZeros_0f7a4 (l : Launch) (dC : Nat → ClassId) (dI : Nat → Nat → Nat) (cI cJ cZ cH : ClassId) (sz : Nat) (p0 : Int32) {Q : Int32 → Prop} (hf : wp_J6_numberOfTrailingZeros_0f7a4 p0 Q) : Met l yJ6_numberOfTrailingZeros_0f7a4 (.code yJ6_numberOfTrailingZeros_0f7a4 cJ6_numberOfTrailingZeros_0f7a4 2 (some .int) :: GW) rm_J6_numberOfTrailingZeros_0f7a4 (va_Pc [.int p0] (PX (dC, dI) cI cJ cZ cH (wd_E cI cJ cZ cH ) sz)) (va_Qi (fun (r : Int32) (_u : Unit) => Q r ) (fun u t => BX (dC, dI) (wd_E cI cJ cZ cH ) (va_A (wd_E cI cJ cZ cH ) sz) t) (va_A (wd_E cI cJ cZ cH ) sz)) 0 0 (va_A (wd_E cI cJ cZ cH ) sz) := by
  refine Met_i (w1 := fun u : Unit => wd_E cI cJ cZ cH ) (by decide) (Nat.le_of_ble_eq_true rfl) ?_
  intro p e s m below meth c A Z ls hsz hx hb hml hown hts hmn hA hP hK hN hD hS hl hRet
  have hown : s.vm.findClass "java/lang/Integer" = some m.cls := hown
  have hl : lv_has ls 2 [(0, .int p0)] := hl
  have J74 : ∀ (v0 : Int32) (v1 : Int32), wp_J6_numberOfTrailingZeros_0f7a4_b74 Q  v0 v1 → ∀ (H : Heap) (locs : List Loc) (ls : Array Slot), va_P (dC, dI) vwCl (wd_E cI cJ cZ cH ) H → va_D A (wd_E cI cJ cZ cH ) → va_S A s.heap H locs → lv_has ls 2 [(0, .int v0), (1, .int v1)] → W p l e rm_J6_numberOfTrailingZeros_0f7a4 s m ([Value.int p0] : List Value).toArray below meth c H locs 0 0 Z (F0 m 74 ls []) := by
    intro  v0 v1 hf H locs ls hP hD hS hl
    unfold wp_J6_numberOfTrailingZeros_0f7a4_b74 at hf
    refine lv_iload_n hx hb dJ6_numberOfTrailingZeros_0f7a4_74 rfl (lv_at hl 1 rfl) ?_
    refine lv_iload_n hx hb dJ6_numberOfTrailingZeros_0f7a4_75 rfl (lv_at hl 0 rfl) ?_
    refine lv_iconst (v := 1) hx hb dJ6_numberOfTrailingZeros_0f7a4_76 (by decide) ?_
    refine lv_iushr hx hb dJ6_numberOfTrailingZeros_0f7a4_77 rfl ?_
    refine lv_topi (fun x77_1 ex77_1 => ?_)
    have hf := hf x77_1 ex77_1
    refine lv_iadd hx hb dJ6_numberOfTrailingZeros_0f7a4_78 ?_
    exact hRet _ _ _ _ (v1 + x77_1) () hf hP hD hS dJ6_numberOfTrailingZeros_0f7a4_79
  have J62 : ∀ (v0 : Int32) (v1 : Int32), wp_J6_numberOfTrailingZeros_0f7a4_b62 Q  v0 v1 → ∀ (H : Heap) (locs : List Loc) (ls : Array Slot), va_P (dC, dI) vwCl (wd_E cI cJ cZ cH ) H → va_D A (wd_E cI cJ cZ cH ) → va_S A s.heap H locs → lv_has ls 2 [(0, .int v0), (1, .int v1)] → W p l e rm_J6_numberOfTrailingZeros_0f7a4 s m ([Value.int p0] : List Value).toArray below meth c H locs 0 0 Z (F0 m 62 ls []) := by
    intro  v0 v1 hf H locs ls hP hD hS hl
    unfold wp_J6_numberOfTrailingZeros_0f7a4_b62 at hf
    refine lv_iload_n hx hb dJ6_numberOfTrailingZeros_0f7a4_62 rfl (lv_at hl 0 rfl) ?_
    refine lv_iconst (v := 4) hx hb dJ6_numberOfTrailingZeros_0f7a4_63 (by decide) ?_
    refine lv_icmp_le (tgt := 74) hx hb dJ6_numberOfTrailingZeros_0f7a4_64 (by decide) (fun c64 => ?_) (fun c64 => ?_)
    · have hf := hf.1 c64
      exact J74  v0 v1 hf _ _ _ hP hD hS (lv_sub hl [0, 1] rfl)
    · have hf := hf.2 c64
      obtain ⟨x67_2, ex67_2⟩ : ∃ y : Int32, y = v1 + 2 := ⟨_, rfl⟩
      have hf := hf x67_2 ex67_2
      refine lv_iinc (v := x67_2) (lv' := [(1, .int x67_2), (0, .int v0)]) hx hb dJ6_numberOfTrailingZeros_0f7a4_67 hl (k := 1) rfl (by rw [ex67_2]; rfl) (by decide) rfl (fun ls hl => ?_)
      refine lv_iload_n hx hb dJ6_numberOfTrailingZeros_0f7a4_70 rfl (lv_at hl 1 rfl) ?_
      refine lv_iconst (v := 2) hx hb dJ6_numberOfTrailingZeros_0f7a4_71 (by decide) ?_
      refine lv_iushr hx hb dJ6_numberOfTrailingZeros_0f7a4_72 rfl ?_
      refine lv_topi (fun x72_3 ex72_3 => ?_)
      have hf := hf x72_3 ex72_3
      refine lv_istore_n (lv' := [(0, .int x72_3), (1, .int x67_2)]) hx hb dJ6_numberOfTrailingZeros_0f7a4_73 rfl hl (by decide) rfl (fun ls hl => ?_)
      exact J74  x72_3 x67_2 hf _ _ _ hP hD hS (lv_sub hl [0, 1] rfl)
  have J49 : ∀ (v0 : Int32) (v1 : Int32), wp_J6_numberOfTrailingZeros_0f7a4_b49 Q  v0 v1 → ∀ (H : Heap) (locs : List Loc) (ls : Array Slot), va_P (dC, dI) vwCl (wd_E cI cJ cZ cH ) H → va_D A (wd_E cI cJ cZ cH ) → va_S A s.heap H locs → lv_has ls 2 [(0, .int v0), (1, .int v1)] → W p l e rm_J6_numberOfTrailingZeros_0f7a4 s m ([Value.int p0] : List Value).toArray below meth c H locs 0 0 Z (F0 m 49 ls []) := by
    intro  v0 v1 hf H locs ls hP hD hS hl
    unfold wp_J6_numberOfTrailingZeros_0f7a4_b49 at hf
    refine lv_iload_n hx hb dJ6_numberOfTrailingZeros_0f7a4_49 rfl (lv_at hl 0 rfl) ?_
    refine lv_bipush (v := 16) hx hb dJ6_numberOfTrailingZeros_0f7a4_50 (by decide) ?_
    refine lv_icmp_le (tgt := 62) hx hb dJ6_numberOfTrailingZeros_0f7a4_52 (by decide) (fun c52 => ?_) (fun c52 => ?_)
    · have hf := hf.1 c52
      exact J62  v0 v1 hf _ _ _ hP hD hS (lv_sub hl [0, 1] rfl)
    · have hf := hf.2 c52
      obtain ⟨x55_4, ex55_4⟩ : ∃ y : Int32, y = v1 + 4 := ⟨_, rfl⟩
      have hf := hf x55_4 ex55_4
      refine lv_iinc (v := x55_4) (lv' := [(1, .int x55_4), (0, .int v0)]) hx hb dJ6_numberOfTrailingZeros_0f7a4_55 hl (k := 1) rfl (by rw [ex55_4]; rfl) (by decide) rfl (fun ls hl => ?_)
      refine lv_iload_n hx hb dJ6_numberOfTrailingZeros_0f7a4_58 rfl (lv_at hl 1 rfl) ?_
      refine lv_iconst (v := 4) hx hb dJ6_numberOfTrailingZeros_0f7a4_59 (by decide) ?_
      refine lv_iushr hx hb dJ6_numberOfTrailingZeros_0f7a4_60 rfl ?_
      refine lv_topi (fun x60_5 ex60_5 => ?_)
      have hf := hf x60_5 ex60_5
      refine lv_istore_n (lv' := [(0, .int x60_5), (1, .int x55_4)]) hx hb dJ6_numberOfTrailingZeros_0f7a4_61 rfl hl (by decide) rfl (fun ls hl => ?_)
      exact J62  x60_5 x55_4 hf _ _ _ hP hD hS (lv_sub hl [0, 1] rfl)
  have J34 : ∀ (v0 : Int32) (v1 : Int32), wp_J6_numberOfTrailingZeros_0f7a4_b34 Q  v0 v1 → ∀ (H : Heap) (locs : List Loc) (ls : Array Slot), va_P (dC, dI) vwCl (wd_E cI cJ cZ cH ) H → va_D A (wd_E cI cJ cZ cH ) → va_S A s.heap H locs → lv_has ls 2 [(0, .int v0), (1, .int v1)] → W p l e rm_J6_numberOfTrailingZeros_0f7a4 s m ([Value.int p0] : List Value).toArray below meth c H locs 0 0 Z (F0 m 34 ls []) := by
    intro  v0 v1 hf H locs ls hP hD hS hl
    unfold wp_J6_numberOfTrailingZeros_0f7a4_b34 at hf
    refine lv_iload_n hx hb dJ6_numberOfTrailingZeros_0f7a4_34 rfl (lv_at hl 0 rfl) ?_
    refine lv_sipush (v := 256) hx hb dJ6_numberOfTrailingZeros_0f7a4_35 (by decide) ?_
    refine lv_icmp_le (tgt := 49) hx hb dJ6_numberOfTrailingZeros_0f7a4_38 (by decide) (fun c38 => ?_) (fun c38 => ?_)
    · have hf := hf.1 c38
      exact J49  v0 v1 hf _ _ _ hP hD hS (lv_sub hl [0, 1] rfl)
    · have hf := hf.2 c38
      obtain ⟨x41_6, ex41_6⟩ : ∃ y : Int32, y = v1 + 8 := ⟨_, rfl⟩
      have hf := hf x41_6 ex41_6
      refine lv_iinc (v := x41_6) (lv' := [(1, .int x41_6), (0, .int v0)]) hx hb dJ6_numberOfTrailingZeros_0f7a4_41 hl (k := 1) rfl (by rw [ex41_6]; rfl) (by decide) rfl (fun ls hl => ?_)
      refine lv_iload_n hx hb dJ6_numberOfTrailingZeros_0f7a4_44 rfl (lv_at hl 1 rfl) ?_
      refine lv_bipush (v := 8) hx hb dJ6_numberOfTrailingZeros_0f7a4_45 (by decide) ?_
      refine lv_iushr hx hb dJ6_numberOfTrailingZeros_0f7a4_47 rfl ?_
      refine lv_topi (fun x47_7 ex47_7 => ?_)
      have hf := hf x47_7 ex47_7
      refine lv_istore_n (lv' := [(0, .int x47_7), (1, .int x41_6)]) hx hb dJ6_numberOfTrailingZeros_0f7a4_48 rfl hl (by decide) rfl (fun ls hl => ?_)
      exact J49  x47_7 x41_6 hf _ _ _ hP hD hS (lv_sub hl [0, 1] rfl)
  unfold wp_J6_numberOfTrailingZeros_0f7a4 at hf
  refine lv_iload_n hx hb dJ6_numberOfTrailingZeros_0f7a4_0 rfl (lv_at hl 0 rfl) ?_
  refine lv_iconst (v := (-1)) hx hb dJ6_numberOfTrailingZeros_0f7a4_1 (by decide) ?_
  refine lv_ixor hx hb dJ6_numberOfTrailingZeros_0f7a4_2 ?_
  refine lv_iload_n hx hb dJ6_numberOfTrailingZeros_0f7a4_3 rfl (lv_at hl 0 rfl) ?_
  refine lv_iconst (v := 1) hx hb dJ6_numberOfTrailingZeros_0f7a4_4 (by decide) ?_
  refine lv_isub hx hb dJ6_numberOfTrailingZeros_0f7a4_5 ?_
  refine lv_iand hx hb dJ6_numberOfTrailingZeros_0f7a4_6 ?_
  refine lv_topi (fun x7_8 ex7_8 => ?_)
  have hf := hf x7_8 ex7_8
  refine lv_istore_n (lv' := [(0, .int x7_8)]) hx hb dJ6_numberOfTrailingZeros_0f7a4_7 rfl hl (by decide) rfl (fun ls hl => ?_)
  refine lv_iload_n hx hb dJ6_numberOfTrailingZeros_0f7a4_8 rfl (lv_at hl 0 rfl) ?_
  refine lv_if_gt (tgt := 17) hx hb dJ6_numberOfTrailingZeros_0f7a4_9 (by decide) (fun c9 => ?_) (fun c9 => ?_)
  · have hf := hf.1 c9
    refine lv_iconst (v := 1) hx hb dJ6_numberOfTrailingZeros_0f7a4_17 (by decide) ?_
    refine lv_istore_n (lv' := [(1, .int (1 : Int32)), (0, .int x7_8)]) hx hb dJ6_numberOfTrailingZeros_0f7a4_18 rfl hl (by decide) rfl (fun ls hl => ?_)
    refine lv_iload_n hx hb dJ6_numberOfTrailingZeros_0f7a4_19 rfl (lv_at hl 1 rfl) ?_
    refine lv_ldcw (v := 65536) hx hb hown (hts _ kw661) dJ6_numberOfTrailingZeros_0f7a4_20 ?_
    refine lv_icmp_le (tgt := 34) hx hb dJ6_numberOfTrailingZeros_0f7a4_23 (by decide) (fun c23 => ?_) (fun c23 => ?_)
    · have hf := hf.1 c23
      exact J34  x7_8 (1 : Int32) hf _ _ _ hP hD hS (lv_sub hl [1, 0] rfl)
    · have hf := hf.2 c23
      refine lv_iinc (v := 17) (lv' := [(1, .int (17 : Int32)), (0, .int x7_8)]) hx hb dJ6_numberOfTrailingZeros_0f7a4_26 hl (k := 0) rfl (by decide) (by decide) rfl (fun ls hl => ?_)
      refine lv_iload_n hx hb dJ6_numberOfTrailingZeros_0f7a4_29 rfl (lv_at hl 1 rfl) ?_
      refine lv_bipush (v := 16) hx hb dJ6_numberOfTrailingZeros_0f7a4_30 (by decide) ?_
      refine lv_iushr hx hb dJ6_numberOfTrailingZeros_0f7a4_32 rfl ?_
      refine lv_topi (fun x32_9 ex32_9 => ?_)
      have hf := hf x32_9 ex32_9
      refine lv_istore_n (lv' := [(0, .int x32_9), (1, .int (17 : Int32))]) hx hb dJ6_numberOfTrailingZeros_0f7a4_33 rfl hl (by decide) rfl (fun ls hl => ?_)
      exact J34  x32_9 (17 : Int32) hf _ _ _ hP hD hS (lv_sub hl [0, 1] rfl)
  · have hf := hf.2 c9
    refine lv_iload_n hx hb dJ6_numberOfTrailingZeros_0f7a4_12 rfl (lv_at hl 0 rfl) ?_
    refine lv_bipush (v := 32) hx hb dJ6_numberOfTrailingZeros_0f7a4_13 (by decide) ?_
    refine lv_iand hx hb dJ6_numberOfTrailingZeros_0f7a4_15 ?_
    exact hRet _ _ _ _ (x7_8 &&& (32 : Int32)) () hf hP hD hS dJ6_numberOfTrailingZeros_0f7a4_16
abbrev rm_X2_lastOf : Room := { frames := 1, cells := 0, slots := 0, locals := 21 }
set_option maxHeartbeats 4000000 in
set_option maxRecDepth 100000 in
theorem c_X2_lastOf (l : Launch) (dC : Nat → ClassId) (dI : Nat → Nat → Nat) (cI cJ cZ cH : ClassId) (aH : Nat) (aE : Nat) (aEd : Nat) (aEf : Nat) (aEs : Nat) (aS : Nat) (aSd : Nat) (aSf : Nat) (aSg : Nat) (aL : Nat) (aLb : Nat) (aLk : Nat) (aLe : Nat) (sz : Nat) (h_rate : Int32) (h_wrap : Int32) (e_days : Nat → Int32) (e_firsts : Nat → Int32) (e_seconds : Nat → Int32) (e_size : Int32) (s_days : Nat → Int32) (s_fars : Nat → Int32) (s_goods : Nat → Int32) (l_bests : Nat → Int32) (l_kept : Nat → Int32) (l_enough : Nat → Int32) (l_known : Int32) (p1 : Int32) {Q : Int32 → Prop} (hf : wp_X2_lastOf e_size p1 Q) : Met l yX2_lastOf (.code yX2_lastOf cX2_lastOf 2 (some .int) :: GW) rm_X2_lastOf (va_Pc [.ref aL, .int p1] (PX (dC, dI) cI cJ cZ cH (wd_X2 cI cJ cZ cH aH aE aEd aEf aEs aS aSd aSf aSg aL aLb aLk aLe h_rate h_wrap e_days e_firsts e_seconds e_size s_days s_fars s_goods l_bests l_kept l_enough l_known) sz)) (va_Qi (fun (r : Int32) (_u : Unit) => Q r ) (fun u t => BX (dC, dI) (wd_X2 cI cJ cZ cH aH aE aEd aEf aEs aS aSd aSf aSg aL aLb aLk aLe h_rate h_wrap e_days e_firsts e_seconds e_size s_days s_fars s_goods l_bests l_kept l_enough l_known) (va_A (wd_X2 cI cJ cZ cH aH aE aEd aEf aEs aS aSd aSf aSg aL aLb aLk aLe h_rate h_wrap e_days e_firsts e_seconds e_size s_days s_fars s_goods l_bests l_kept l_enough l_known) sz) t) (va_A (wd_X2 cI cJ cZ cH aH aE aEd aEf aEs aS aSd aSf aSg aL aLb aLk aLe h_rate h_wrap e_days e_firsts e_seconds e_size s_days s_fars s_goods l_bests l_kept l_enough l_known) sz)) 0 0 (va_A (wd_X2 cI cJ cZ cH aH aE aEd aEf aEs aS aSd aSf aSg aL aLb aLk aLe h_rate h_wrap e_days e_firsts e_seconds e_size s_days s_fars s_goods l_bests l_kept l_enough l_known) sz) := by
  refine Met_i (w1 := fun u : Unit => wd_X2 cI cJ cZ cH aH aE aEd aEf aEs aS aSd aSf aSg aL aLb aLk aLe h_rate h_wrap e_days e_firsts e_seconds e_size s_days s_fars s_goods l_bests l_kept l_enough l_known) (by decide) (Nat.le_of_ble_eq_true rfl) ?_
  intro p e s m below meth c A Z ls hsz hx hb hml hown hts hmn hA hP hK hN hD hS hl hRet
  have hown : s.vm.findClass "MilesKept$Losses" = some m.cls := hown
  have hl : lv_has ls 2 [(0, .ref aL), (1, .int p1)] := hl
  have J22 : ∀ (k0 : Int32), wp_X2_lastOf_b22 e_size Q  k0 → ∀ (H : Heap) (locs : List Loc) (ls : Array Slot), va_P (dC, dI) vwCl (wd_X2 cI cJ cZ cH aH aE aEd aEf aEs aS aSd aSf aSg aL aLb aLk aLe h_rate h_wrap e_days e_firsts e_seconds e_size s_days s_fars s_goods l_bests l_kept l_enough l_known) H → va_D A (wd_X2 cI cJ cZ cH aH aE aEd aEf aEs aS aSd aSf aSg aL aLb aLk aLe h_rate h_wrap e_days e_firsts e_seconds e_size s_days s_fars s_goods l_bests l_kept l_enough l_known) → va_S A s.heap H locs → lv_has ls 2 [] → W p l e rm_X2_lastOf s m ([Value.ref aL, Value.int p1] : List Value).toArray below meth c H locs 0 0 Z (F0 m 22 ls [.int k0]) := by
    intro  k0 hf H locs ls hP hD hS hl
    unfold wp_X2_lastOf_b22 at hf
    exact hRet _ _ _ _ k0 () hf hP hD hS dX2_lastOf_22
  unfold wp_X2_lastOf at hf
  refine lv_iload_n hx hb dX2_lastOf_0 rfl (lv_at hl 1 rfl) ?_
  refine lv_if_ne (tgt := 8) hx hb dX2_lastOf_1 (by decide) (fun c1 => ?_) (fun c1 => ?_)
  · have hf := hf.1 c1
    refine lv_aload_n hx hb dX2_lastOf_8 rfl (lv_at hl 0 rfl) ?_
    refine va_get (D := (dC, dI)) (ci := 2) (v := .ref aS) (C := RX2) (T := TX2) (N := 5) hx hb hts inX2 hown hK hP 9 rfl rfl 0 (by decide) (hts _ kw251) (fun _ h9 => h9) rfl dX2_lastOf_9 ?_
    refine mk_i (w2 := fun u : Unit => wd_X2 cI cJ cZ cH aH aE aEd aEf aEs aS aSd aSf aSg aL aLb aLk aLe h_rate h_wrap e_days e_firsts e_seconds e_size s_days s_fars s_goods l_bests l_kept l_enough l_known) (wc := wd_X6 cI cJ cZ cH aH aE aEd aEf aEs aS aSd aSf aSg h_rate h_wrap e_days e_firsts e_seconds e_size s_days s_fars s_goods) hP hD hS hA [0, 1, 2, 3, 4, 5, 6, 7, 8] [9, 10, 11, 12] [4, 5, 6, 7, 8, 9, 10, 11, 12, 0, 1, 2, 3] rfl rfl rfl rfl (by decide) rfl (fun _ => rfl) (fun hPc hDc => va_runV (As := []) (rest := []) ⟨hx, hb, hml, hown, hts⟩ (c_X6_size l dC dI cI cJ cZ cH aH aE aEd aEf aEs aS aSd aSf aSg s.heap.size h_rate h_wrap e_days e_firsts e_seconds e_size s_days s_fars s_goods hf) (cwV 0 hts (gV kw653 kw298 kw299 kw7 kw300) rfl rfl rfl (by decide +kernel) ⟨Nat.le_of_ble_eq_true rfl, Nat.le_of_ble_eq_true rfl⟩) ⟨PX_blind, va_recv hK hPc (ci := 6) (q0 := 5) rfl rfl, PX_pre hPc hDc hK hN⟩ rfl rfl hl.1 rfl (lv_room (Nat.le_of_ble_eq_true rfl)) dX2_lastOf_12 ⟨Nat.le_of_ble_eq_true rfl, Nat.le_of_ble_eq_true rfl⟩) (fun r12_1 u H locs hf hP hD hS => ?_)
    try dsimp only at hf
    have hP : va_P (dC, dI) vwCl (wd_X2 cI cJ cZ cH aH aE aEd aEf aEs aS aSd aSf aSg aL aLb aLk aLe h_rate h_wrap e_days e_firsts e_seconds e_size s_days s_fars s_goods l_bests l_kept l_enough l_known) H := hP
    have hD : va_D A (wd_X2 cI cJ cZ cH aH aE aEd aEf aEs aS aSd aSf aSg aL aLb aLk aLe h_rate h_wrap e_days e_firsts e_seconds e_size s_days s_fars s_goods l_bests l_kept l_enough l_known) := hD
    refine lv_iconst (v := 1) hx hb dX2_lastOf_15 (by decide) ?_
    refine lv_isub hx hb dX2_lastOf_16 ?_
    refine lv_iload_n hx hb dX2_lastOf_17 rfl (lv_at hl 1 rfl) ?_
    refine mk_i (w2 := fun u : Unit => wd_X2 cI cJ cZ cH aH aE aEd aEf aEs aS aSd aSf aSg aL aLb aLk aLe h_rate h_wrap e_days e_firsts e_seconds e_size s_days s_fars s_goods l_bests l_kept l_enough l_known) (wc := wd_E cI cJ cZ cH ) hP hD hS hA [] [0, 1, 2, 3, 4, 5, 6, 7, 8, 9, 10, 11, 12] [0, 1, 2, 3, 4, 5, 6, 7, 8, 9, 10, 11, 12] rfl rfl rfl rfl (by decide) rfl (fun _ => rfl) (fun hPc hDc => va_runS (As := [.int p1]) (rest := [.int (r12_1 - (1 : Int32))]) ⟨hx, hb, hml, hown, hts⟩ (c_J6_numberOfTrailingZeros_0f7a4 l dC dI cI cJ cZ cH H.size p1 hf) (va_cwS 1 hts (gS kw658 kw659 kw13 kw660) rfl rfl rfl (by decide +kernel) ⟨Nat.le_of_ble_eq_true rfl, Nat.le_of_ble_eq_true rfl⟩) ⟨PX_blind, PX_pre hPc hDc hK hN⟩ rfl rfl hl.1 rfl (lv_room (Nat.le_of_ble_eq_true rfl)) dX2_lastOf_18 ⟨Nat.le_of_ble_eq_true rfl, Nat.le_of_ble_eq_true rfl⟩) (fun r18_2 u H locs hf hP hD hS => ?_)
    try dsimp only at hf
    have hP : va_P (dC, dI) vwCl (wd_X2 cI cJ cZ cH aH aE aEd aEf aEs aS aSd aSf aSg aL aLb aLk aLe h_rate h_wrap e_days e_firsts e_seconds e_size s_days s_fars s_goods l_bests l_kept l_enough l_known) H := hP
    have hD : va_D A (wd_X2 cI cJ cZ cH aH aE aEd aEf aEs aS aSd aSf aSg aL aLb aLk aLe h_rate h_wrap e_days e_firsts e_seconds e_size s_days s_fars s_goods l_bests l_kept l_enough l_known) := hD
    refine lv_isub hx hb dX2_lastOf_21 ?_
    exact J22  ((r12_1 - (1 : Int32)) - r18_2) hf _ _ _ hP hD hS (lv_sub hl [] rfl)
  · have hf := hf.2 c1
    refine lv_iconst (v := (-1)) hx hb dX2_lastOf_4 (by decide) ?_
    refine lv_goto (tgt := 22) hx hb dX2_lastOf_5 (by decide) ?_
    exact J22  (-1 : Int32) hf _ _ _ hP hD hS (lv_sub hl [] rfl)
abbrev rm_X2_keepBehind : Room := { frames := 2, cells := 0, slots := 0, locals := 48 }
set_option maxHeartbeats 4000000 in
set_option maxRecDepth 100000 in
theorem c_X2_keepBehind (l : Launch) (dC : Nat → ClassId) (dI : Nat → Nat → Nat) (cI cJ cZ cH : ClassId) (aH : Nat) (aE : Nat) (aEd : Nat) (aEf : Nat) (aEs : Nat) (aS : Nat) (aSd : Nat) (aSf : Nat) (aSg : Nat) (aL : Nat) (aLb : Nat) (aLk : Nat) (aLe : Nat) (sz : Nat) (h_rate : Int32) (h_wrap : Int32) (e_days : Nat → Int32) (e_firsts : Nat → Int32) (e_seconds : Nat → Int32) (e_size : Int32) (s_days : Nat → Int32) (s_fars : Nat → Int32) (s_goods : Nat → Int32) (l_bests : Nat → Int32) (l_kept : Nat → Int32) (l_enough : Nat → Int32) (l_known : Int32) (p1 : Int32) (p2 : Int32) (p3 : Int32) {Q : Int32 → (Nat → Int32) → Prop} (hf : wp_X2_keepBehind h_rate s_days s_fars s_goods l_kept p1 p2 p3 Q) : Met l yX2_keepBehind (.code yX2_keepBehind cX2_keepBehind 5 (some .int) :: GW) rm_X2_keepBehind (va_Pc [.ref aL, .int p1, .int p2, .int p3] (PX (dC, dI) cI cJ cZ cH (wd_X2 cI cJ cZ cH aH aE aEd aEf aEs aS aSd aSf aSg aL aLb aLk aLe h_rate h_wrap e_days e_firsts e_seconds e_size s_days s_fars s_goods l_bests l_kept l_enough l_known) sz)) (va_Qi (fun (r : Int32) (u : (Nat → Int32)) => Q r u) (fun u t => BX (dC, dI) (wd_X2 cI cJ cZ cH aH aE aEd aEf aEs aS aSd aSf aSg aL aLb aLk aLe h_rate h_wrap e_days e_firsts e_seconds e_size s_days s_fars s_goods l_bests u l_enough l_known) (va_A (wd_X2 cI cJ cZ cH aH aE aEd aEf aEs aS aSd aSf aSg aL aLb aLk aLe h_rate h_wrap e_days e_firsts e_seconds e_size s_days s_fars s_goods l_bests l_kept l_enough l_known) sz) t) (va_A (wd_X2 cI cJ cZ cH aH aE aEd aEf aEs aS aSd aSf aSg aL aLb aLk aLe h_rate h_wrap e_days e_firsts e_seconds e_size s_days s_fars s_goods l_bests l_kept l_enough l_known) sz)) 0 0 (va_A (wd_X2 cI cJ cZ cH aH aE aEd aEf aEs aS aSd aSf aSg aL aLb aLk aLe h_rate h_wrap e_days e_firsts e_seconds e_size s_days s_fars s_goods l_bests l_kept l_enough l_known) sz) := by
  refine Met_i (w1 := fun u : (Nat → Int32) => wd_X2 cI cJ cZ cH aH aE aEd aEf aEs aS aSd aSf aSg aL aLb aLk aLe h_rate h_wrap e_days e_firsts e_seconds e_size s_days s_fars s_goods l_bests u l_enough l_known) (by decide) (Nat.le_of_ble_eq_true rfl) ?_
  intro p e s m below meth c A Z ls hsz hx hb hml hown hts hmn hA hP hK hN hD hS hl hRet
  have hown : s.vm.findClass "MilesKept$Losses" = some m.cls := hown
  have hl : lv_has ls 5 [(0, .ref aL), (1, .int p1), (2, .int p2), (3, .int p3)] := hl
  unfold wp_X2_keepBehind at hf
  refine lv_aload_n hx hb dX2_keepBehind_0 rfl (lv_at hl 0 rfl) ?_
  refine va_get (D := (dC, dI)) (ci := 2) (v := .ref aS) (C := RX2) (T := TX2) (N := 5) hx hb hts inX2 hown hK hP 9 rfl rfl 0 (by decide) (hts _ kw251) (fun _ h9 => h9) rfl dX2_keepBehind_1 ?_
  refine lv_iload_n hx hb dX2_keepBehind_4 rfl (lv_at hl 1 rfl) ?_
  refine lv_iload_n hx hb dX2_keepBehind_5 rfl (lv_at hl 2 rfl) ?_
  refine lv_iload_n hx hb dX2_keepBehind_6 rfl (lv_at hl 3 rfl) ?_
  refine mk_i (w2 := fun u : Unit => wd_X2 cI cJ cZ cH aH aE aEd aEf aEs aS aSd aSf aSg aL aLb aLk aLe h_rate h_wrap e_days e_firsts e_seconds e_size s_days s_fars s_goods l_bests l_kept l_enough l_known) (wc := wd_X6 cI cJ cZ cH aH aE aEd aEf aEs aS aSd aSf aSg h_rate h_wrap e_days e_firsts e_seconds e_size s_days s_fars s_goods) hP hD hS hA [0, 1, 2, 3, 4, 5, 6, 7, 8] [9, 10, 11, 12] [4, 5, 6, 7, 8, 9, 10, 11, 12, 0, 1, 2, 3] rfl rfl rfl rfl (by decide) rfl (fun _ => rfl) (fun hPc hDc => va_runV (As := [.int p1, .int p2, .int p3]) (rest := []) ⟨hx, hb, hml, hown, hts⟩ (c_X6_following l dC dI cI cJ cZ cH aH aE aEd aEf aEs aS aSd aSf aSg s.heap.size h_rate h_wrap e_days e_firsts e_seconds e_size s_days s_fars s_goods p1 p2 p3 hf) (cwV 3 hts (gV kw671 kw310 kw311 kw7 kw312) rfl rfl rfl (by decide +kernel) ⟨Nat.le_of_ble_eq_true rfl, Nat.le_of_ble_eq_true rfl⟩) ⟨PX_blind, va_recv hK hPc (ci := 6) (q0 := 5) rfl rfl, PX_pre hPc hDc hK hN⟩ rfl rfl hl.1 rfl (lv_room (Nat.le_of_ble_eq_true rfl)) dX2_keepBehind_7 ⟨Nat.le_of_ble_eq_true rfl, Nat.le_of_ble_eq_true rfl⟩) (fun r7_1 u H locs hf hP hD hS => ?_)
  try dsimp only at hf
  have hP : va_P (dC, dI) vwCl (wd_X2 cI cJ cZ cH aH aE aEd aEf aEs aS aSd aSf aSg aL aLb aLk aLe h_rate h_wrap e_days e_firsts e_seconds e_size s_days s_fars s_goods l_bests l_kept l_enough l_known) H := hP
  have hD : va_D A (wd_X2 cI cJ cZ cH aH aE aEd aEf aEs aS aSd aSf aSg aL aLb aLk aLe h_rate h_wrap e_days e_firsts e_seconds e_size s_days s_fars s_goods l_bests l_kept l_enough l_known) := hD
  refine lv_istore (lv' := [(4, .int r7_1), (0, .ref aL), (1, .int p1), (2, .int p2), (3, .int p3)]) hx hb dX2_keepBehind_10 hl (by decide) rfl (fun ls hl => ?_)
  refine lv_iload hx hb dX2_keepBehind_12 (lv_at hl 0 rfl) ?_
  refine lv_if_ge (tgt := 19) hx hb dX2_keepBehind_14 (by decide) (fun c14 => ?_) (fun c14 => ?_)
  · have hf := hf.1 c14
    refine lv_aload_n hx hb dX2_keepBehind_19 rfl (lv_at hl 1 rfl) ?_
    refine va_get (D := (dC, dI)) (ci := 2) (v := .ref aLk) (C := RX2) (T := TX2) (N := 5) hx hb hts inX2 hown hK hP 9 rfl rfl 2 (by decide) (hts _ kw253) (fun _ h9 => h9) rfl dX2_keepBehind_20 ?_
    refine lv_iload hx hb dX2_keepBehind_23 (lv_at hl 0 rfl) ?_
    refine lv_aload_n hx hb dX2_keepBehind_25 rfl (lv_at hl 1 rfl) ?_
    refine va_get (D := (dC, dI)) (ci := 2) (v := .ref aLk) (C := RX2) (T := TX2) (N := 5) hx hb hts inX2 hown hK hP 9 rfl rfl 2 (by decide) (hts _ kw253) (fun _ h9 => h9) rfl dX2_keepBehind_26 ?_
    refine lv_iload hx hb dX2_keepBehind_29 (lv_at hl 0 rfl) ?_
    obtain ⟨hin, hf⟩ := hf
    refine va_iald hx hb hK hP 11 0 rfl rfl hin dX2_keepBehind_31 ?_
    refine lv_aload_n hx hb dX2_keepBehind_32 rfl (lv_at hl 1 rfl) ?_
    refine va_get (D := (dC, dI)) (ci := 2) (v := .ref aLk) (C := RX2) (T := TX2) (N := 5) hx hb hts inX2 hown hK hP 9 rfl rfl 2 (by decide) (hts _ kw253) (fun _ h9 => h9) rfl dX2_keepBehind_33 ?_
    refine lv_iload_n hx hb dX2_keepBehind_36 rfl (lv_at hl 2 rfl) ?_
    obtain ⟨hin, hf⟩ := hf
    refine va_iald hx hb hK hP 11 0 rfl rfl hin dX2_keepBehind_37 ?_
    refine lv_aload_n hx hb dX2_keepBehind_38 rfl (lv_at hl 1 rfl) ?_
    refine va_get (D := (dC, dI)) (ci := 2) (v := .ref aS) (C := RX2) (T := TX2) (N := 5) hx hb hts inX2 hown hK hP 9 rfl rfl 0 (by decide) (hts _ kw251) (fun _ h9 => h9) rfl dX2_keepBehind_39 ?_
    refine va_get (D := (dC, dI)) (ci := 6) (v := .ref aSg) (C := RX6) (T := TX6) (N := 4) hx hb hts inX6 hown hK hP 5 rfl rfl 2 (by decide) (hts _ kw189) (fun _ h9 => h9) rfl dX2_keepBehind_42 ?_
    refine lv_iload hx hb dX2_keepBehind_45 (lv_at hl 0 rfl) ?_
    obtain ⟨hin, hf⟩ := hf
    refine va_iald hx hb hK hP 8 0 rfl rfl hin dX2_keepBehind_47 ?_
    refine lv_iadd hx hb dX2_keepBehind_48 ?_
    refine va_mmax hx hb (hml.trans hl.1.symm) hown (hts _ kw672) (hts _ kw318) (hts _ kw11) (hts _ kw319) (Nat.le_of_ble_eq_true rfl) (Nat.le_of_ble_eq_true rfl) (Nat.le_of_ble_eq_true rfl) (Nat.le_of_ble_eq_true rfl) dX2_keepBehind_49 ?_
    refine lv_topi (fun x49_2 ex49_2 => ?_)
    have hf := hf x49_2 ex49_2
    obtain ⟨hin, hf⟩ := hf
    refine va_iast hx hb hK hP hD hS 11 0 rfl rfl hin dX2_keepBehind_52 (fun H locs hP hD hS => ?_)
    have hP : va_P (dC, dI) vwCl (wd_X2 cI cJ cZ cH aH aE aEd aEf aEs aS aSd aSf aSg aL aLb aLk aLe h_rate h_wrap e_days e_firsts e_seconds e_size s_days s_fars s_goods l_bests (upd l_kept r7_1.toNatClampNeg x49_2) l_enough l_known) H := hP
    have hD : va_D A (wd_X2 cI cJ cZ cH aH aE aEd aEf aEs aS aSd aSf aSg aL aLb aLk aLe h_rate h_wrap e_days e_firsts e_seconds e_size s_days s_fars s_goods l_bests (upd l_kept r7_1.toNatClampNeg x49_2) l_enough l_known) := hD
    refine lv_aload_n hx hb dX2_keepBehind_53 rfl (lv_at hl 1 rfl) ?_
    refine va_get (D := (dC, dI)) (ci := 2) (v := .ref aLk) (C := RX2) (T := TX2) (N := 5) hx hb hts inX2 hown hK hP 9 rfl rfl 2 (by decide) (hts _ kw253) (fun _ h9 => h9) rfl dX2_keepBehind_54 ?_
    refine lv_iload hx hb dX2_keepBehind_57 (lv_at hl 0 rfl) ?_
    obtain ⟨hin, hf⟩ := hf
    refine va_iald hx hb hK hP 11 0 rfl rfl hin dX2_keepBehind_59 ?_
    exact hRet _ _ _ _ ((upd l_kept r7_1.toNatClampNeg x49_2) r7_1.toNatClampNeg) (upd l_kept r7_1.toNatClampNeg x49_2) hf hP hD hS dX2_keepBehind_60
  · have hf := hf.2 c14
    refine lv_iconst (v := (-1)) hx hb dX2_keepBehind_17 (by decide) ?_
    exact hRet _ _ _ _ (-1 : Int32) l_kept hf hP hD hS dX2_keepBehind_18
abbrev rm_X2_keepLast : Room := { frames := 3, cells := 0, slots := 0, locals := 72 }
set_option maxHeartbeats 4000000 in
set_option maxRecDepth 100000 in
theorem c_X2_keepLast (l : Launch) (dC : Nat → ClassId) (dI : Nat → Nat → Nat) (cI cJ cZ cH : ClassId) (aH : Nat) (aE : Nat) (aEd : Nat) (aEf : Nat) (aEs : Nat) (aS : Nat) (aSd : Nat) (aSf : Nat) (aSg : Nat) (aL : Nat) (aLb : Nat) (aLk : Nat) (aLe : Nat) (sz : Nat) (h_rate : Int32) (h_wrap : Int32) (e_days : Nat → Int32) (e_firsts : Nat → Int32) (e_seconds : Nat → Int32) (e_size : Int32) (s_days : Nat → Int32) (s_fars : Nat → Int32) (s_goods : Nat → Int32) (l_bests : Nat → Int32) (l_kept : Nat → Int32) (l_enough : Nat → Int32) (l_known : Int32) (p1 : Int32) (p2 : Int32) {Q : Int32 → (Nat → Int32) → Prop} (hf : wp_X2_keepLast h_rate s_days s_fars s_goods l_kept p1 p2 Q) : Met l yX2_keepLast (.code yX2_keepLast cX2_keepLast 7 (some .int) :: GW) rm_X2_keepLast (va_Pc [.ref aL, .int p1, .int p2] (PX (dC, dI) cI cJ cZ cH (wd_X2 cI cJ cZ cH aH aE aEd aEf aEs aS aSd aSf aSg aL aLb aLk aLe h_rate h_wrap e_days e_firsts e_seconds e_size s_days s_fars s_goods l_bests l_kept l_enough l_known) sz)) (va_Qi (fun (r : Int32) (u : (Nat → Int32)) => Q r u) (fun u t => BX (dC, dI) (wd_X2 cI cJ cZ cH aH aE aEd aEf aEs aS aSd aSf aSg aL aLb aLk aLe h_rate h_wrap e_days e_firsts e_seconds e_size s_days s_fars s_goods l_bests u l_enough l_known) (va_A (wd_X2 cI cJ cZ cH aH aE aEd aEf aEs aS aSd aSf aSg aL aLb aLk aLe h_rate h_wrap e_days e_firsts e_seconds e_size s_days s_fars s_goods l_bests l_kept l_enough l_known) sz) t) (va_A (wd_X2 cI cJ cZ cH aH aE aEd aEf aEs aS aSd aSf aSg aL aLb aLk aLe h_rate h_wrap e_days e_firsts e_seconds e_size s_days s_fars s_goods l_bests l_kept l_enough l_known) sz)) 0 0 (va_A (wd_X2 cI cJ cZ cH aH aE aEd aEf aEs aS aSd aSf aSg aL aLb aLk aLe h_rate h_wrap e_days e_firsts e_seconds e_size s_days s_fars s_goods l_bests l_kept l_enough l_known) sz) := by
  refine Met_i (w1 := fun u : (Nat → Int32) => wd_X2 cI cJ cZ cH aH aE aEd aEf aEs aS aSd aSf aSg aL aLb aLk aLe h_rate h_wrap e_days e_firsts e_seconds e_size s_days s_fars s_goods l_bests u l_enough l_known) (by decide) (Nat.le_of_ble_eq_true rfl) ?_
  intro p e s m below meth c A Z ls hsz hx hb hml hown hts hmn hA hP hK hN hD hS hl hRet
  have hown : s.vm.findClass "MilesKept$Losses" = some m.cls := hown
  have hl : lv_has ls 7 [(0, .ref aL), (1, .int p1), (2, .int p2)] := hl
  have J92 : ∀ (K46 : Int32 → Int32 → Int32 → Int32 → (Nat → Int32) → Prop) (hK46 : ∀ (v2 : Int32) (v4 : Int32) (v5 : Int32) (v6 : Int32) (l_kept : Nat → Int32), K46 v2 v4 v5 v6 l_kept → ∀ (H : Heap) (locs : List Loc) (ls : Array Slot), va_P (dC, dI) vwCl (wd_X2 cI cJ cZ cH aH aE aEd aEf aEs aS aSd aSf aSg aL aLb aLk aLe h_rate h_wrap e_days e_firsts e_seconds e_size s_days s_fars s_goods l_bests l_kept l_enough l_known) H → va_D A (wd_X2 cI cJ cZ cH aH aE aEd aEf aEs aS aSd aSf aSg aL aLb aLk aLe h_rate h_wrap e_days e_firsts e_seconds e_size s_days s_fars s_goods l_bests l_kept l_enough l_known) → va_S A s.heap H locs → lv_has ls 7 [(0, .ref aL), (2, .int v2), (4, .int v4), (5, .int v5), (6, .int v6)] → W p l e rm_X2_keepLast s m ([Value.ref aL, Value.int p1, Value.int p2] : List Value).toArray below meth c H locs 0 0 Z (F0 m 46 ls [])), ∀ (v2 : Int32) (v4 : Int32) (v5 : Int32) (v6 : Int32) (l_kept : Nat → Int32), wp_X2_keepLast_b92 h_rate s_days s_fars s_goods Q K46 v2 v4 v5 v6 l_kept → ∀ (H : Heap) (locs : List Loc) (ls : Array Slot), va_P (dC, dI) vwCl (wd_X2 cI cJ cZ cH aH aE aEd aEf aEs aS aSd aSf aSg aL aLb aLk aLe h_rate h_wrap e_days e_firsts e_seconds e_size s_days s_fars s_goods l_bests l_kept l_enough l_known) H → va_D A (wd_X2 cI cJ cZ cH aH aE aEd aEf aEs aS aSd aSf aSg aL aLb aLk aLe h_rate h_wrap e_days e_firsts e_seconds e_size s_days s_fars s_goods l_bests l_kept l_enough l_known) → va_S A s.heap H locs → lv_has ls 7 [(0, .ref aL), (2, .int v2), (4, .int v4), (5, .int v5), (6, .int v6)] → W p l e rm_X2_keepLast s m ([Value.ref aL, Value.int p1, Value.int p2] : List Value).toArray below meth c H locs 0 0 Z (F0 m 92 ls []) := by
    intro K46 hK46 v2 v4 v5 v6 l_kept hf H locs ls hP hD hS hl
    unfold wp_X2_keepLast_b92 at hf
    obtain ⟨x92_1, ex92_1⟩ : ∃ y : Int32, y = v6 + 1 := ⟨_, rfl⟩
    have hf := hf x92_1 ex92_1
    refine lv_iinc (v := x92_1) (lv' := [(6, .int x92_1), (0, .ref aL), (2, .int v2), (4, .int v4), (5, .int v5)]) hx hb dX2_keepLast_92 hl (k := 4) rfl (by rw [ex92_1]; rfl) (by decide) rfl (fun ls hl => ?_)
    refine lv_goto (tgt := 46) hx hb dX2_keepLast_95 (by decide) ?_
    exact hK46 v2 v4 v5 x92_1 l_kept hf _ _ _ hP hD hS (lv_sub hl [1, 2, 3, 4, 0] rfl)
  have L46 : ∀ (n : Nat) (v2 : Int32) (v4 : Int32) (v5 : Int32) (v6 : Int32) (l_kept : Nat → Int32), wp_X2_keepLast_h46 h_rate s_days s_fars s_goods Q  n v2 v4 v5 v6 l_kept → ∀ (H : Heap) (locs : List Loc) (ls : Array Slot), va_P (dC, dI) vwCl (wd_X2 cI cJ cZ cH aH aE aEd aEf aEs aS aSd aSf aSg aL aLb aLk aLe h_rate h_wrap e_days e_firsts e_seconds e_size s_days s_fars s_goods l_bests l_kept l_enough l_known) H → va_D A (wd_X2 cI cJ cZ cH aH aE aEd aEf aEs aS aSd aSf aSg aL aLb aLk aLe h_rate h_wrap e_days e_firsts e_seconds e_size s_days s_fars s_goods l_bests l_kept l_enough l_known) → va_S A s.heap H locs → lv_has ls 7 [(0, .ref aL), (2, .int v2), (4, .int v4), (5, .int v5), (6, .int v6)] → W p l e rm_X2_keepLast s m ([Value.ref aL, Value.int p1, Value.int p2] : List Value).toArray below meth c H locs 0 0 Z (F0 m 46 ls []) := by
    intro n
    induction n with
    | zero =>
      intro v2 v4 v5 v6 l_kept hf
      exact False.elim hf
    | succ n hK46 =>
      intro v2 v4 v5 v6 l_kept hf H locs ls hP hD hS hl
      simp only [wp_X2_keepLast_h46] at hf
      refine lv_iload hx hb dX2_keepLast_46 (lv_at hl 4 rfl) ?_
      refine lv_iload hx hb dX2_keepLast_48 (lv_at hl 2 rfl) ?_
      refine lv_bipush (v := 8) hx hb dX2_keepLast_50 (by decide) ?_
      refine lv_iadd hx hb dX2_keepLast_52 ?_
      refine lv_icmp_ge (tgt := 98) hx hb dX2_keepLast_53 (by decide) (fun c53 => ?_) (fun c53 => ?_)
      · have hf := hf.1 c53
        refine lv_iload hx hb dX2_keepLast_98 (lv_at hl 3 rfl) ?_
        exact hRet _ _ _ _ v5 l_kept hf hP hD hS dX2_keepLast_100
      · have hf := hf.2 c53
        refine lv_aload_n hx hb dX2_keepLast_56 rfl (lv_at hl 0 rfl) ?_
        refine va_get (D := (dC, dI)) (ci := 2) (v := .ref aLk) (C := RX2) (T := TX2) (N := 5) hx hb hts inX2 hown hK hP 9 rfl rfl 2 (by decide) (hts _ kw253) (fun _ h9 => h9) rfl dX2_keepLast_57 ?_
        refine lv_iload hx hb dX2_keepLast_60 (lv_at hl 4 rfl) ?_
        obtain ⟨hin, hf⟩ := hf
        refine va_iald hx hb hK hP 11 0 rfl rfl hin dX2_keepLast_62 ?_
        refine lv_if_lt (tgt := 92) hx hb dX2_keepLast_63 (by decide) (fun c63 => ?_) (fun c63 => ?_)
        · have hf := hf.1 c63
          exact J92 _ hK46 v2 v4 v5 v6 l_kept hf _ _ _ hP hD hS (lv_sub hl [0, 1, 2, 3, 4] rfl)
        · have hf := hf.2 c63
          refine lv_iload hx hb dX2_keepLast_66 (lv_at hl 3 rfl) ?_
          refine lv_aload_n hx hb dX2_keepLast_68 rfl (lv_at hl 0 rfl) ?_
          refine lv_iload hx hb dX2_keepLast_69 (lv_at hl 4 rfl) ?_
          refine lv_iload_n hx hb dX2_keepLast_71 rfl (lv_at hl 1 rfl) ?_
          refine lv_iconst (v := 0) hx hb dX2_keepLast_72 (by decide) ?_
          refine mk_i (w2 := fun u : (Nat → Int32) => wd_X2 cI cJ cZ cH aH aE aEd aEf aEs aS aSd aSf aSg aL aLb aLk aLe h_rate h_wrap e_days e_firsts e_seconds e_size s_days s_fars s_goods l_bests u l_enough l_known) (wc := wd_X2 cI cJ cZ cH aH aE aEd aEf aEs aS aSd aSf aSg aL aLb aLk aLe h_rate h_wrap e_days e_firsts e_seconds e_size s_days s_fars s_goods l_bests l_kept l_enough l_known) hP hD hS hA [0, 1, 2, 3, 4, 5, 6, 7, 8, 9, 10, 11, 12] [] [0, 1, 2, 3, 4, 5, 6, 7, 8, 9, 10, 11, 12] rfl rfl rfl rfl (by decide) rfl (fun _ => rfl) (fun hPc hDc => va_runV (As := [.int v6, .int v2, .int (0 : Int32)]) (rest := [.int v5]) ⟨hx, hb, hml, hown, hts⟩ (c_X2_keepBehind l dC dI cI cJ cZ cH aH aE aEd aEf aEs aS aSd aSf aSg aL aLb aLk aLe H.size h_rate h_wrap e_days e_firsts e_seconds e_size s_days s_fars s_goods l_bests l_kept l_enough l_known v6 v2 (0 : Int32) hf) (cwV 3 hts (gV kw667 kw669 kp32 kw9 kw670) rfl rfl rfl (by decide +kernel) ⟨Nat.le_of_ble_eq_true rfl, Nat.le_of_ble_eq_true rfl⟩) ⟨PX_blind, va_recv hK hPc (ci := 2) (q0 := 9) rfl rfl, PX_pre hPc hDc hK hN⟩ rfl rfl hl.1 rfl (lv_room (Nat.le_of_ble_eq_true rfl)) dX2_keepLast_73 ⟨Nat.le_of_ble_eq_true rfl, Nat.le_of_ble_eq_true rfl⟩) (fun r73_3 l_kept_73_2 H locs hf hP hD hS => ?_)
          try dsimp only at hf
          have hP : va_P (dC, dI) vwCl (wd_X2 cI cJ cZ cH aH aE aEd aEf aEs aS aSd aSf aSg aL aLb aLk aLe h_rate h_wrap e_days e_firsts e_seconds e_size s_days s_fars s_goods l_bests l_kept_73_2 l_enough l_known) H := hP
          have hD : va_D A (wd_X2 cI cJ cZ cH aH aE aEd aEf aEs aS aSd aSf aSg aL aLb aLk aLe h_rate h_wrap e_days e_firsts e_seconds e_size s_days s_fars s_goods l_bests l_kept_73_2 l_enough l_known) := hD
          refine lv_aload_n hx hb dX2_keepLast_76 rfl (lv_at hl 0 rfl) ?_
          refine lv_iload hx hb dX2_keepLast_77 (lv_at hl 4 rfl) ?_
          refine lv_iload_n hx hb dX2_keepLast_79 rfl (lv_at hl 1 rfl) ?_
          refine lv_iconst (v := 1) hx hb dX2_keepLast_80 (by decide) ?_
          refine mk_i (w2 := fun u : (Nat → Int32) => wd_X2 cI cJ cZ cH aH aE aEd aEf aEs aS aSd aSf aSg aL aLb aLk aLe h_rate h_wrap e_days e_firsts e_seconds e_size s_days s_fars s_goods l_bests u l_enough l_known) (wc := wd_X2 cI cJ cZ cH aH aE aEd aEf aEs aS aSd aSf aSg aL aLb aLk aLe h_rate h_wrap e_days e_firsts e_seconds e_size s_days s_fars s_goods l_bests l_kept_73_2 l_enough l_known) hP hD hS hA [0, 1, 2, 3, 4, 5, 6, 7, 8, 9, 10, 11, 12] [] [0, 1, 2, 3, 4, 5, 6, 7, 8, 9, 10, 11, 12] rfl rfl rfl rfl (by decide) rfl (fun _ => rfl) (fun hPc hDc => va_runV (As := [.int v6, .int v2, .int (1 : Int32)]) (rest := [.int r73_3, .int v5]) ⟨hx, hb, hml, hown, hts⟩ (c_X2_keepBehind l dC dI cI cJ cZ cH aH aE aEd aEf aEs aS aSd aSf aSg aL aLb aLk aLe H.size h_rate h_wrap e_days e_firsts e_seconds e_size s_days s_fars s_goods l_bests l_kept_73_2 l_enough l_known v6 v2 (1 : Int32) hf) (cwV 3 hts (gV kw667 kw669 kp32 kw9 kw670) rfl rfl rfl (by decide +kernel) ⟨Nat.le_of_ble_eq_true rfl, Nat.le_of_ble_eq_true rfl⟩) ⟨PX_blind, va_recv hK hPc (ci := 2) (q0 := 9) rfl rfl, PX_pre hPc hDc hK hN⟩ rfl rfl hl.1 rfl (lv_room (Nat.le_of_ble_eq_true rfl)) dX2_keepLast_81 ⟨Nat.le_of_ble_eq_true rfl, Nat.le_of_ble_eq_true rfl⟩) (fun r81_5 l_kept_81_4 H locs hf hP hD hS => ?_)
          try dsimp only at hf
          have hP : va_P (dC, dI) vwCl (wd_X2 cI cJ cZ cH aH aE aEd aEf aEs aS aSd aSf aSg aL aLb aLk aLe h_rate h_wrap e_days e_firsts e_seconds e_size s_days s_fars s_goods l_bests l_kept_81_4 l_enough l_known) H := hP
          have hD : va_D A (wd_X2 cI cJ cZ cH aH aE aEd aEf aEs aS aSd aSf aSg aL aLb aLk aLe h_rate h_wrap e_days e_firsts e_seconds e_size s_days s_fars s_goods l_bests l_kept_81_4 l_enough l_known) := hD
          refine va_mmax hx hb (hml.trans hl.1.symm) hown (hts _ kw672) (hts _ kw318) (hts _ kw11) (hts _ kw319) (Nat.le_of_ble_eq_true rfl) (Nat.le_of_ble_eq_true rfl) (Nat.le_of_ble_eq_true rfl) (Nat.le_of_ble_eq_true rfl) dX2_keepLast_84 ?_
          refine lv_topi (fun x84_6 ex84_6 => ?_)
          have hf := hf x84_6 ex84_6
          refine va_mmax hx hb (hml.trans hl.1.symm) hown (hts _ kw672) (hts _ kw318) (hts _ kw11) (hts _ kw319) (Nat.le_of_ble_eq_true rfl) (Nat.le_of_ble_eq_true rfl) (Nat.le_of_ble_eq_true rfl) (Nat.le_of_ble_eq_true rfl) dX2_keepLast_87 ?_
          refine lv_topi (fun x87_7 ex87_7 => ?_)
          have hf := hf x87_7 ex87_7
          refine lv_istore (lv' := [(5, .int x87_7), (0, .ref aL), (2, .int v2), (4, .int v4), (6, .int v6)]) hx hb dX2_keepLast_90 hl (by decide) rfl (fun ls hl => ?_)
          exact J92 _ hK46 v2 v4 x87_7 v6 l_kept_81_4 hf _ _ _ hP hD hS (lv_sub hl [1, 2, 3, 0, 4] rfl)
  have L9 : ∀ (n : Nat) (v1 : Int32) (v2 : Int32) (v3 : Int32) (v4 : Int32) (l_kept : Nat → Int32), wp_X2_keepLast_h9 h_rate s_days s_fars s_goods Q  n v1 v2 v3 v4 l_kept → ∀ (H : Heap) (locs : List Loc) (ls : Array Slot), va_P (dC, dI) vwCl (wd_X2 cI cJ cZ cH aH aE aEd aEf aEs aS aSd aSf aSg aL aLb aLk aLe h_rate h_wrap e_days e_firsts e_seconds e_size s_days s_fars s_goods l_bests l_kept l_enough l_known) H → va_D A (wd_X2 cI cJ cZ cH aH aE aEd aEf aEs aS aSd aSf aSg aL aLb aLk aLe h_rate h_wrap e_days e_firsts e_seconds e_size s_days s_fars s_goods l_bests l_kept l_enough l_known) → va_S A s.heap H locs → lv_has ls 7 [(0, .ref aL), (1, .int v1), (2, .int v2), (3, .int v3), (4, .int v4)] → W p l e rm_X2_keepLast s m ([Value.ref aL, Value.int p1, Value.int p2] : List Value).toArray below meth c H locs 0 0 Z (F0 m 9 ls []) := by
    intro n
    induction n with
    | zero =>
      intro v1 v2 v3 v4 l_kept hf
      exact False.elim hf
    | succ n hK9 =>
      intro v1 v2 v3 v4 l_kept hf H locs ls hP hD hS hl
      simp only [wp_X2_keepLast_h9] at hf
      refine lv_iload hx hb dX2_keepLast_9 (lv_at hl 4 rfl) ?_
      refine lv_bipush (v := 8) hx hb dX2_keepLast_11 (by decide) ?_
      refine lv_icmp_ge (tgt := 32) hx hb dX2_keepLast_13 (by decide) (fun c13 => ?_) (fun c13 => ?_)
      · have hf := hf.1 c13
        refine lv_iload_n hx hb dX2_keepLast_32 rfl (lv_at hl 1 rfl) ?_
        refine lv_iconst (v := 0) hx hb dX2_keepLast_33 (by decide) ?_
        refine mk_i (w2 := fun u : Unit => wd_X2 cI cJ cZ cH aH aE aEd aEf aEs aS aSd aSf aSg aL aLb aLk aLe h_rate h_wrap e_days e_firsts e_seconds e_size s_days s_fars s_goods l_bests l_kept l_enough l_known) (wc := wd_E cI cJ cZ cH ) hP hD hS hA [] [0, 1, 2, 3, 4, 5, 6, 7, 8, 9, 10, 11, 12] [0, 1, 2, 3, 4, 5, 6, 7, 8, 9, 10, 11, 12] rfl rfl rfl rfl (by decide) rfl (fun _ => rfl) (fun hPc hDc => va_runS (As := [.int v1, .int (0 : Int32)]) (rest := []) ⟨hx, hb, hml, hown, hts⟩ (c_X6_standOf l dC dI cI cJ cZ cH H.size v1 (0 : Int32) hf) (va_cwS 2 hts (gS kw666 kw280 kw7 kw281) rfl rfl rfl (by decide +kernel) ⟨Nat.le_of_ble_eq_true rfl, Nat.le_of_ble_eq_true rfl⟩) ⟨PX_blind, PX_pre hPc hDc hK hN⟩ rfl rfl hl.1 rfl (lv_room (Nat.le_of_ble_eq_true rfl)) dX2_keepLast_34 ⟨Nat.le_of_ble_eq_true rfl, Nat.le_of_ble_eq_true rfl⟩) (fun r34_8 u H locs hf hP hD hS => ?_)
        try dsimp only at hf
        have hP : va_P (dC, dI) vwCl (wd_X2 cI cJ cZ cH aH aE aEd aEf aEs aS aSd aSf aSg aL aLb aLk aLe h_rate h_wrap e_days e_firsts e_seconds e_size s_days s_fars s_goods l_bests l_kept l_enough l_known) H := hP
        have hD : va_D A (wd_X2 cI cJ cZ cH aH aE aEd aEf aEs aS aSd aSf aSg aL aLb aLk aLe h_rate h_wrap e_days e_firsts e_seconds e_size s_days s_fars s_goods l_bests l_kept l_enough l_known) := hD
        refine lv_istore (lv' := [(4, .int r34_8), (0, .ref aL), (1, .int v1), (2, .int v2), (3, .int v3)]) hx hb dX2_keepLast_37 hl (by decide) rfl (fun ls hl => ?_)
        refine lv_iconst (v := (-1)) hx hb dX2_keepLast_39 (by decide) ?_
        refine lv_istore (lv' := [(5, .int (-1 : Int32)), (4, .int r34_8), (0, .ref aL), (1, .int v1), (2, .int v2), (3, .int v3)]) hx hb dX2_keepLast_40 hl (by decide) rfl (fun ls hl => ?_)
        refine lv_iload hx hb dX2_keepLast_42 (lv_at hl 1 rfl) ?_
        refine lv_istore (lv' := [(6, .int r34_8), (5, .int (-1 : Int32)), (4, .int r34_8), (0, .ref aL), (1, .int v1), (2, .int v2), (3, .int v3)]) hx hb dX2_keepLast_44 hl (by decide) rfl (fun ls hl => ?_)
        obtain ⟨n9, hf⟩ := hf
        exact L46  n9 v2 r34_8 (-1 : Int32) r34_8 l_kept hf _ _ _ hP hD hS (lv_sub hl [3, 5, 2, 1, 0] rfl)
      · have hf := hf.2 c13
        refine lv_aload_n hx hb dX2_keepLast_16 rfl (lv_at hl 0 rfl) ?_
        refine va_get (D := (dC, dI)) (ci := 2) (v := .ref aLk) (C := RX2) (T := TX2) (N := 5) hx hb hts inX2 hown hK hP 9 rfl rfl 2 (by decide) (hts _ kw253) (fun _ h9 => h9) rfl dX2_keepLast_17 ?_
        refine lv_iload_n hx hb dX2_keepLast_20 rfl (lv_at hl 3 rfl) ?_
        refine lv_iload hx hb dX2_keepLast_21 (lv_at hl 4 rfl) ?_
        refine lv_iadd hx hb dX2_keepLast_23 ?_
        refine lv_iconst (v := (-1)) hx hb dX2_keepLast_24 (by decide) ?_
        obtain ⟨hin, hf⟩ := hf
        refine va_iast hx hb hK hP hD hS 11 0 rfl rfl hin dX2_keepLast_25 (fun H locs hP hD hS => ?_)
        have hP : va_P (dC, dI) vwCl (wd_X2 cI cJ cZ cH aH aE aEd aEf aEs aS aSd aSf aSg aL aLb aLk aLe h_rate h_wrap e_days e_firsts e_seconds e_size s_days s_fars s_goods l_bests (upd l_kept (v3 + v4).toNatClampNeg (-1 : Int32)) l_enough l_known) H := hP
        have hD : va_D A (wd_X2 cI cJ cZ cH aH aE aEd aEf aEs aS aSd aSf aSg aL aLb aLk aLe h_rate h_wrap e_days e_firsts e_seconds e_size s_days s_fars s_goods l_bests (upd l_kept (v3 + v4).toNatClampNeg (-1 : Int32)) l_enough l_known) := hD
        obtain ⟨x26_9, ex26_9⟩ : ∃ y : Int32, y = v4 + 1 := ⟨_, rfl⟩
        have hf := hf x26_9 ex26_9
        refine lv_iinc (v := x26_9) (lv' := [(4, .int x26_9), (0, .ref aL), (1, .int v1), (2, .int v2), (3, .int v3)]) hx hb dX2_keepLast_26 hl (k := 4) rfl (by rw [ex26_9]; rfl) (by decide) rfl (fun ls hl => ?_)
        refine lv_goto (tgt := 9) hx hb dX2_keepLast_29 (by decide) ?_
        exact hK9 v1 v2 v3 x26_9 (upd l_kept (v3 + v4).toNatClampNeg (-1 : Int32)) hf _ _ _ hP hD hS (lv_sub hl [1, 2, 3, 4, 0] rfl)
  unfold wp_X2_keepLast at hf
  refine lv_iload_n hx hb dX2_keepLast_0 rfl (lv_at hl 2 rfl) ?_
  refine lv_iconst (v := 0) hx hb dX2_keepLast_1 (by decide) ?_
  refine mk_i (w2 := fun u : Unit => wd_X2 cI cJ cZ cH aH aE aEd aEf aEs aS aSd aSf aSg aL aLb aLk aLe h_rate h_wrap e_days e_firsts e_seconds e_size s_days s_fars s_goods l_bests l_kept l_enough l_known) (wc := wd_E cI cJ cZ cH ) hP hD hS hA [] [0, 1, 2, 3, 4, 5, 6, 7, 8, 9, 10, 11, 12] [0, 1, 2, 3, 4, 5, 6, 7, 8, 9, 10, 11, 12] rfl rfl rfl rfl (by decide) rfl (fun _ => rfl) (fun hPc hDc => va_runS (As := [.int p2, .int (0 : Int32)]) (rest := []) ⟨hx, hb, hml, hown, hts⟩ (c_X6_standOf l dC dI cI cJ cZ cH s.heap.size p2 (0 : Int32) hf) (va_cwS 2 hts (gS kw666 kw280 kw7 kw281) rfl rfl rfl (by decide +kernel) ⟨Nat.le_of_ble_eq_true rfl, Nat.le_of_ble_eq_true rfl⟩) ⟨PX_blind, PX_pre hPc hDc hK hN⟩ rfl rfl hl.1 rfl (lv_room (Nat.le_of_ble_eq_true rfl)) dX2_keepLast_2 ⟨Nat.le_of_ble_eq_true rfl, Nat.le_of_ble_eq_true rfl⟩) (fun r2_10 u H locs hf hP hD hS => ?_)
  try dsimp only at hf
  have hP : va_P (dC, dI) vwCl (wd_X2 cI cJ cZ cH aH aE aEd aEf aEs aS aSd aSf aSg aL aLb aLk aLe h_rate h_wrap e_days e_firsts e_seconds e_size s_days s_fars s_goods l_bests l_kept l_enough l_known) H := hP
  have hD : va_D A (wd_X2 cI cJ cZ cH aH aE aEd aEf aEs aS aSd aSf aSg aL aLb aLk aLe h_rate h_wrap e_days e_firsts e_seconds e_size s_days s_fars s_goods l_bests l_kept l_enough l_known) := hD
  refine lv_istore_n (lv' := [(3, .int r2_10), (0, .ref aL), (1, .int p1), (2, .int p2)]) hx hb dX2_keepLast_5 rfl hl (by decide) rfl (fun ls hl => ?_)
  refine lv_iconst (v := 0) hx hb dX2_keepLast_6 (by decide) ?_
  refine lv_istore (lv' := [(4, .int (0 : Int32)), (3, .int r2_10), (0, .ref aL), (1, .int p1), (2, .int p2)]) hx hb dX2_keepLast_7 hl (by decide) rfl (fun ls hl => ?_)
  obtain ⟨n9, hf⟩ := hf
  exact L9  n9 p1 p2 r2_10 (0 : Int32) l_kept hf _ _ _ hP hD hS (lv_sub hl [2, 3, 4, 1, 0] rfl)
abbrev rm_X2_bestWithoutOne : Room := { frames := 1, cells := 0, slots := 0, locals := 13 }
set_option maxHeartbeats 4000000 in
set_option maxRecDepth 100000 in
theorem c_X2_bestWithoutOne (l : Launch) (dC : Nat → ClassId) (dI : Nat → Nat → Nat) (cI cJ cZ cH : ClassId) (aH : Nat) (aE : Nat) (aEd : Nat) (aEf : Nat) (aEs : Nat) (aS : Nat) (aSd : Nat) (aSf : Nat) (aSg : Nat) (aL : Nat) (aLb : Nat) (aLk : Nat) (aLe : Nat) (sz : Nat) (h_rate : Int32) (h_wrap : Int32) (e_days : Nat → Int32) (e_firsts : Nat → Int32) (e_seconds : Nat → Int32) (e_size : Int32) (s_days : Nat → Int32) (s_fars : Nat → Int32) (s_goods : Nat → Int32) (l_bests : Nat → Int32) (l_kept : Nat → Int32) (l_enough : Nat → Int32) (l_known : Int32) (p1 : Int32) {Q : Int32 → Prop} (hf : wp_X2_bestWithoutOne l_bests p1 Q) : Met l yX2_bestWithoutOne (.code yX2_bestWithoutOne cX2_bestWithoutOne 4 (some .int) :: GW) rm_X2_bestWithoutOne (va_Pc [.ref aL, .int p1] (PX (dC, dI) cI cJ cZ cH (wd_X2 cI cJ cZ cH aH aE aEd aEf aEs aS aSd aSf aSg aL aLb aLk aLe h_rate h_wrap e_days e_firsts e_seconds e_size s_days s_fars s_goods l_bests l_kept l_enough l_known) sz)) (va_Qi (fun (r : Int32) (_u : Unit) => Q r ) (fun u t => BX (dC, dI) (wd_X2 cI cJ cZ cH aH aE aEd aEf aEs aS aSd aSf aSg aL aLb aLk aLe h_rate h_wrap e_days e_firsts e_seconds e_size s_days s_fars s_goods l_bests l_kept l_enough l_known) (va_A (wd_X2 cI cJ cZ cH aH aE aEd aEf aEs aS aSd aSf aSg aL aLb aLk aLe h_rate h_wrap e_days e_firsts e_seconds e_size s_days s_fars s_goods l_bests l_kept l_enough l_known) sz) t) (va_A (wd_X2 cI cJ cZ cH aH aE aEd aEf aEs aS aSd aSf aSg aL aLb aLk aLe h_rate h_wrap e_days e_firsts e_seconds e_size s_days s_fars s_goods l_bests l_kept l_enough l_known) sz)) 0 0 (va_A (wd_X2 cI cJ cZ cH aH aE aEd aEf aEs aS aSd aSf aSg aL aLb aLk aLe h_rate h_wrap e_days e_firsts e_seconds e_size s_days s_fars s_goods l_bests l_kept l_enough l_known) sz) := by
  refine Met_i (w1 := fun u : Unit => wd_X2 cI cJ cZ cH aH aE aEd aEf aEs aS aSd aSf aSg aL aLb aLk aLe h_rate h_wrap e_days e_firsts e_seconds e_size s_days s_fars s_goods l_bests l_kept l_enough l_known) (by decide) (Nat.le_of_ble_eq_true rfl) ?_
  intro p e s m below meth c A Z ls hsz hx hb hml hown hts hmn hA hP hK hN hD hS hl hRet
  have hown : s.vm.findClass "MilesKept$Losses" = some m.cls := hown
  have hl : lv_has ls 4 [(0, .ref aL), (1, .int p1)] := hl
  have J28 : ∀ (K4 : Int32 → Int32 → Int32 → Prop) (hK4 : ∀ (v1 : Int32) (v2 : Int32) (v3 : Int32), K4 v1 v2 v3 → ∀ (H : Heap) (locs : List Loc) (ls : Array Slot), va_P (dC, dI) vwCl (wd_X2 cI cJ cZ cH aH aE aEd aEf aEs aS aSd aSf aSg aL aLb aLk aLe h_rate h_wrap e_days e_firsts e_seconds e_size s_days s_fars s_goods l_bests l_kept l_enough l_known) H → va_D A (wd_X2 cI cJ cZ cH aH aE aEd aEf aEs aS aSd aSf aSg aL aLb aLk aLe h_rate h_wrap e_days e_firsts e_seconds e_size s_days s_fars s_goods l_bests l_kept l_enough l_known) → va_S A s.heap H locs → lv_has ls 4 [(0, .ref aL), (1, .int v1), (2, .int v2), (3, .int v3)] → W p l e rm_X2_bestWithoutOne s m ([Value.ref aL, Value.int p1] : List Value).toArray below meth c H locs 0 0 Z (F0 m 4 ls [])), ∀ (v1 : Int32) (v2 : Int32) (v3 : Int32), wp_X2_bestWithoutOne_b28 l_bests Q K4 v1 v2 v3 → ∀ (H : Heap) (locs : List Loc) (ls : Array Slot), va_P (dC, dI) vwCl (wd_X2 cI cJ cZ cH aH aE aEd aEf aEs aS aSd aSf aSg aL aLb aLk aLe h_rate h_wrap e_days e_firsts e_seconds e_size s_days s_fars s_goods l_bests l_kept l_enough l_known) H → va_D A (wd_X2 cI cJ cZ cH aH aE aEd aEf aEs aS aSd aSf aSg aL aLb aLk aLe h_rate h_wrap e_days e_firsts e_seconds e_size s_days s_fars s_goods l_bests l_kept l_enough l_known) → va_S A s.heap H locs → lv_has ls 4 [(0, .ref aL), (1, .int v1), (2, .int v2), (3, .int v3)] → W p l e rm_X2_bestWithoutOne s m ([Value.ref aL, Value.int p1] : List Value).toArray below meth c H locs 0 0 Z (F0 m 28 ls []) := by
    intro K4 hK4 v1 v2 v3 hf H locs ls hP hD hS hl
    unfold wp_X2_bestWithoutOne_b28 at hf
    refine lv_iload_n hx hb dX2_bestWithoutOne_28 rfl (lv_at hl 3 rfl) ?_
    refine lv_iconst (v := 1) hx hb dX2_bestWithoutOne_29 (by decide) ?_
    refine lv_ishl hx hb dX2_bestWithoutOne_30 ?_
    refine lv_topi (fun x31_1 ex31_1 => ?_)
    have hf := hf x31_1 ex31_1
    refine lv_istore_n (lv' := [(3, .int x31_1), (0, .ref aL), (1, .int v1), (2, .int v2)]) hx hb dX2_bestWithoutOne_31 rfl hl (by decide) rfl (fun ls hl => ?_)
    refine lv_goto (tgt := 4) hx hb dX2_bestWithoutOne_32 (by decide) ?_
    exact hK4 v1 v2 x31_1 hf _ _ _ hP hD hS (lv_sub hl [1, 2, 3, 0] rfl)
  have L4 : ∀ (n : Nat) (v1 : Int32) (v2 : Int32) (v3 : Int32), wp_X2_bestWithoutOne_h4 l_bests Q  n v1 v2 v3 → ∀ (H : Heap) (locs : List Loc) (ls : Array Slot), va_P (dC, dI) vwCl (wd_X2 cI cJ cZ cH aH aE aEd aEf aEs aS aSd aSf aSg aL aLb aLk aLe h_rate h_wrap e_days e_firsts e_seconds e_size s_days s_fars s_goods l_bests l_kept l_enough l_known) H → va_D A (wd_X2 cI cJ cZ cH aH aE aEd aEf aEs aS aSd aSf aSg aL aLb aLk aLe h_rate h_wrap e_days e_firsts e_seconds e_size s_days s_fars s_goods l_bests l_kept l_enough l_known) → va_S A s.heap H locs → lv_has ls 4 [(0, .ref aL), (1, .int v1), (2, .int v2), (3, .int v3)] → W p l e rm_X2_bestWithoutOne s m ([Value.ref aL, Value.int p1] : List Value).toArray below meth c H locs 0 0 Z (F0 m 4 ls []) := by
    intro n
    induction n with
    | zero =>
      intro v1 v2 v3 hf
      exact False.elim hf
    | succ n hK4 =>
      intro v1 v2 v3 hf H locs ls hP hD hS hl
      simp only [wp_X2_bestWithoutOne_h4] at hf
      refine lv_iload_n hx hb dX2_bestWithoutOne_4 rfl (lv_at hl 3 rfl) ?_
      refine lv_iload_n hx hb dX2_bestWithoutOne_5 rfl (lv_at hl 1 rfl) ?_
      refine lv_icmp_gt (tgt := 35) hx hb dX2_bestWithoutOne_6 (by decide) (fun c6 => ?_) (fun c6 => ?_)
      · have hf := hf.1 c6
        refine lv_iload_n hx hb dX2_bestWithoutOne_35 rfl (lv_at hl 2 rfl) ?_
        exact hRet _ _ _ _ v2 () hf hP hD hS dX2_bestWithoutOne_36
      · have hf := hf.2 c6
        refine lv_iload_n hx hb dX2_bestWithoutOne_9 rfl (lv_at hl 1 rfl) ?_
        refine lv_iload_n hx hb dX2_bestWithoutOne_10 rfl (lv_at hl 3 rfl) ?_
        refine lv_iand hx hb dX2_bestWithoutOne_11 ?_
        refine lv_if_eq (tgt := 28) hx hb dX2_bestWithoutOne_12 (by decide) (fun c12 => ?_) (fun c12 => ?_)
        · have hf := hf.1 c12
          exact J28 _ hK4 v1 v2 v3 hf _ _ _ hP hD hS (lv_sub hl [0, 1, 2, 3] rfl)
        · have hf := hf.2 c12
          refine lv_iload_n hx hb dX2_bestWithoutOne_15 rfl (lv_at hl 2 rfl) ?_
          refine lv_aload_n hx hb dX2_bestWithoutOne_16 rfl (lv_at hl 0 rfl) ?_
          refine va_get (D := (dC, dI)) (ci := 2) (v := .ref aLb) (C := RX2) (T := TX2) (N := 5) hx hb hts inX2 hown hK hP 9 rfl rfl 1 (by decide) (hts _ kw252) (fun _ h9 => h9) rfl dX2_bestWithoutOne_17 ?_
          refine lv_iload_n hx hb dX2_bestWithoutOne_20 rfl (lv_at hl 1 rfl) ?_
          refine lv_iload_n hx hb dX2_bestWithoutOne_21 rfl (lv_at hl 3 rfl) ?_
          refine lv_isub hx hb dX2_bestWithoutOne_22 ?_
          obtain ⟨hin, hf⟩ := hf
          refine va_iald hx hb hK hP 10 0 rfl rfl hin dX2_bestWithoutOne_23 ?_
          refine va_mmax hx hb (hml.trans hl.1.symm) hown (hts _ kw672) (hts _ kw318) (hts _ kw11) (hts _ kw319) (Nat.le_of_ble_eq_true rfl) (Nat.le_of_ble_eq_true rfl) (Nat.le_of_ble_eq_true rfl) (Nat.le_of_ble_eq_true rfl) dX2_bestWithoutOne_24 ?_
          refine lv_topi (fun x24_2 ex24_2 => ?_)
          have hf := hf x24_2 ex24_2
          refine lv_istore_n (lv' := [(2, .int x24_2), (0, .ref aL), (1, .int v1), (3, .int v3)]) hx hb dX2_bestWithoutOne_27 rfl hl (by decide) rfl (fun ls hl => ?_)
          exact J28 _ hK4 v1 x24_2 v3 hf _ _ _ hP hD hS (lv_sub hl [1, 2, 0, 3] rfl)
  unfold wp_X2_bestWithoutOne at hf
  refine lv_iconst (v := 0) hx hb dX2_bestWithoutOne_0 (by decide) ?_
  refine lv_istore_n (lv' := [(2, .int (0 : Int32)), (0, .ref aL), (1, .int p1)]) hx hb dX2_bestWithoutOne_1 rfl hl (by decide) rfl (fun ls hl => ?_)
  refine lv_iconst (v := 1) hx hb dX2_bestWithoutOne_2 (by decide) ?_
  refine lv_istore_n (lv' := [(3, .int (1 : Int32)), (2, .int (0 : Int32)), (0, .ref aL), (1, .int p1)]) hx hb dX2_bestWithoutOne_3 rfl hl (by decide) rfl (fun ls hl => ?_)
  obtain ⟨n9, hf⟩ := hf
  exact L4  n9 p1 (0 : Int32) (1 : Int32) hf _ _ _ hP hD hS (lv_sub hl [2, 3, 1, 0] rfl)
abbrev rm_X2_findBests : Room := { frames := 4, cells := 0, slots := 0, locals := 98 }
set_option maxHeartbeats 4000000 in
set_option maxRecDepth 100000 in
theorem c_X2_findBests (l : Launch) (dC : Nat → ClassId) (dI : Nat → Nat → Nat) (cI cJ cZ cH : ClassId) (aH : Nat) (aE : Nat) (aEd : Nat) (aEf : Nat) (aEs : Nat) (aS : Nat) (aSd : Nat) (aSf : Nat) (aSg : Nat) (aL : Nat) (aLb : Nat) (aLk : Nat) (aLe : Nat) (sz : Nat) (h_rate : Int32) (h_wrap : Int32) (e_days : Nat → Int32) (e_firsts : Nat → Int32) (e_seconds : Nat → Int32) (e_size : Int32) (s_days : Nat → Int32) (s_fars : Nat → Int32) (s_goods : Nat → Int32) (l_bests : Nat → Int32) (l_kept : Nat → Int32) (l_enough : Nat → Int32) (l_known : Int32) {Q : (Nat → Int32) → (Nat → Int32) → Int32 → Prop} (hf : wp_X2_findBests h_rate e_size s_days s_fars s_goods l_bests l_kept l_known Q) : Met l yX2_findBests (.code yX2_findBests cX2_findBests 3 none :: GW) rm_X2_findBests (va_Pc [.ref aL] (PX (dC, dI) cI cJ cZ cH (wd_X2 cI cJ cZ cH aH aE aEd aEf aEs aS aSd aSf aSg aL aLb aLk aLe h_rate h_wrap e_days e_firsts e_seconds e_size s_days s_fars s_goods l_bests l_kept l_enough l_known) sz)) (va_Qv (fun (u : (Nat → Int32) × (Nat → Int32) × Int32) => Q u.1 u.2.1 u.2.2) (fun u t => BX (dC, dI) (wd_X2 cI cJ cZ cH aH aE aEd aEf aEs aS aSd aSf aSg aL aLb aLk aLe h_rate h_wrap e_days e_firsts e_seconds e_size s_days s_fars s_goods u.1 u.2.1 l_enough u.2.2) (va_A (wd_X2 cI cJ cZ cH aH aE aEd aEf aEs aS aSd aSf aSg aL aLb aLk aLe h_rate h_wrap e_days e_firsts e_seconds e_size s_days s_fars s_goods l_bests l_kept l_enough l_known) sz) t) (va_A (wd_X2 cI cJ cZ cH aH aE aEd aEf aEs aS aSd aSf aSg aL aLb aLk aLe h_rate h_wrap e_days e_firsts e_seconds e_size s_days s_fars s_goods l_bests l_kept l_enough l_known) sz)) 0 0 (va_A (wd_X2 cI cJ cZ cH aH aE aEd aEf aEs aS aSd aSf aSg aL aLb aLk aLe h_rate h_wrap e_days e_firsts e_seconds e_size s_days s_fars s_goods l_bests l_kept l_enough l_known) sz) := by
  refine Met_v (w1 := fun u : (Nat → Int32) × (Nat → Int32) × Int32 => wd_X2 cI cJ cZ cH aH aE aEd aEf aEs aS aSd aSf aSg aL aLb aLk aLe h_rate h_wrap e_days e_firsts e_seconds e_size s_days s_fars s_goods u.1 u.2.1 l_enough u.2.2) (by decide) (Nat.le_of_ble_eq_true rfl) ?_
  intro p e s m below meth c A Z ls hsz hx hb hml hown hts hmn hA hP hK hN hD hS hl hRet
  have hown : s.vm.findClass "MilesKept$Losses" = some m.cls := hown
  have hl : lv_has ls 3 [(0, .ref aL)] := hl
  have L24 : ∀ (n : Nat) (v1 : Int32) (l_bests : Nat → Int32) (l_kept : Nat → Int32) (l_known : Int32), wp_X2_findBests_h24 h_rate e_size s_days s_fars s_goods Q  n v1 l_bests l_kept l_known → ∀ (H : Heap) (locs : List Loc) (ls : Array Slot), va_P (dC, dI) vwCl (wd_X2 cI cJ cZ cH aH aE aEd aEf aEs aS aSd aSf aSg aL aLb aLk aLe h_rate h_wrap e_days e_firsts e_seconds e_size s_days s_fars s_goods l_bests l_kept l_enough l_known) H → va_D A (wd_X2 cI cJ cZ cH aH aE aEd aEf aEs aS aSd aSf aSg aL aLb aLk aLe h_rate h_wrap e_days e_firsts e_seconds e_size s_days s_fars s_goods l_bests l_kept l_enough l_known) → va_S A s.heap H locs → lv_has ls 3 [(0, .ref aL), (1, .int v1)] → W p l e rm_X2_findBests s m ([Value.ref aL] : List Value).toArray below meth c H locs 0 0 Z (F0 m 24 ls []) := by
    intro n
    induction n with
    | zero =>
      intro v1 l_bests l_kept l_known hf
      exact False.elim hf
    | succ n hK24 =>
      intro v1 l_bests l_kept l_known hf H locs ls hP hD hS hl
      simp only [wp_X2_findBests_h24] at hf
      refine lv_iload_n hx hb dX2_findBests_24 rfl (lv_at hl 1 rfl) ?_
      refine lv_iconst (v := 1) hx hb dX2_findBests_25 (by decide) ?_
      refine lv_aload_n hx hb dX2_findBests_26 rfl (lv_at hl 0 rfl) ?_
      refine va_get (D := (dC, dI)) (ci := 2) (v := .ref aS) (C := RX2) (T := TX2) (N := 5) hx hb hts inX2 hown hK hP 9 rfl rfl 0 (by decide) (hts _ kw251) (fun _ h9 => h9) rfl dX2_findBests_27 ?_
      refine mk_i (w2 := fun u : Unit => wd_X2 cI cJ cZ cH aH aE aEd aEf aEs aS aSd aSf aSg aL aLb aLk aLe h_rate h_wrap e_days e_firsts e_seconds e_size s_days s_fars s_goods l_bests l_kept l_enough l_known) (wc := wd_X6 cI cJ cZ cH aH aE aEd aEf aEs aS aSd aSf aSg h_rate h_wrap e_days e_firsts e_seconds e_size s_days s_fars s_goods) hP hD hS hA [0, 1, 2, 3, 4, 5, 6, 7, 8] [9, 10, 11, 12] [4, 5, 6, 7, 8, 9, 10, 11, 12, 0, 1, 2, 3] rfl rfl rfl rfl (by decide) rfl (fun _ => rfl) (fun hPc hDc => va_runV (As := []) (rest := [.int (1 : Int32), .int v1]) ⟨hx, hb, hml, hown, hts⟩ (c_X6_size l dC dI cI cJ cZ cH aH aE aEd aEf aEs aS aSd aSf aSg H.size h_rate h_wrap e_days e_firsts e_seconds e_size s_days s_fars s_goods hf) (cwV 0 hts (gV kw653 kw298 kw299 kw7 kw300) rfl rfl rfl (by decide +kernel) ⟨Nat.le_of_ble_eq_true rfl, Nat.le_of_ble_eq_true rfl⟩) ⟨PX_blind, va_recv hK hPc (ci := 6) (q0 := 5) rfl rfl, PX_pre hPc hDc hK hN⟩ rfl rfl hl.1 rfl (lv_room (Nat.le_of_ble_eq_true rfl)) dX2_findBests_30 ⟨Nat.le_of_ble_eq_true rfl, Nat.le_of_ble_eq_true rfl⟩) (fun r30_1 u H locs hf hP hD hS => ?_)
      try dsimp only at hf
      have hP : va_P (dC, dI) vwCl (wd_X2 cI cJ cZ cH aH aE aEd aEf aEs aS aSd aSf aSg aL aLb aLk aLe h_rate h_wrap e_days e_firsts e_seconds e_size s_days s_fars s_goods l_bests l_kept l_enough l_known) H := hP
      have hD : va_D A (wd_X2 cI cJ cZ cH aH aE aEd aEf aEs aS aSd aSf aSg aL aLb aLk aLe h_rate h_wrap e_days e_firsts e_seconds e_size s_days s_fars s_goods l_bests l_kept l_enough l_known) := hD
      refine lv_ishl hx hb dX2_findBests_33 ?_
      refine lv_icmp_ge (tgt := 77) hx hb dX2_findBests_34 (by decide) (fun c34 => ?_) (fun c34 => ?_)
      · have hf := hf.1 c34
        refine lv_aload_n hx hb dX2_findBests_77 rfl (lv_at hl 0 rfl) ?_
        refine lv_iconst (v := 1) hx hb dX2_findBests_78 (by decide) ?_
        refine va_put (D := (dC, dI)) (ci := 2) (v := .int (1 : Int32)) (ty := .boolean) (C := RX2) (T := TX2) (N := 5) hx hb hts inX2 tyX2 tyX2_ok nmX2 hown hK hP hD hS 9 rfl rfl 4 (by decide) (hts _ kw255) (fun _ h9 => h9) rfl (by decide +kernel) rfl rfl (Nat.le_of_ble_eq_true rfl) dX2_findBests_79 (fun H locs hP hD hS => ?_)
        have hP : va_P (dC, dI) vwCl (wd_X2 cI cJ cZ cH aH aE aEd aEf aEs aS aSd aSf aSg aL aLb aLk aLe h_rate h_wrap e_days e_firsts e_seconds e_size s_days s_fars s_goods l_bests l_kept l_enough (1 : Int32)) H := hP
        have hD : va_D A (wd_X2 cI cJ cZ cH aH aE aEd aEf aEs aS aSd aSf aSg aL aLb aLk aLe h_rate h_wrap e_days e_firsts e_seconds e_size s_days s_fars s_goods l_bests l_kept l_enough (1 : Int32)) := hD
        exact hRet _ _ _ _ (l_bests, l_kept, (1 : Int32)) hf hP hD hS dX2_findBests_82
      · have hf := hf.2 c34
        refine lv_aload_n hx hb dX2_findBests_37 rfl (lv_at hl 0 rfl) ?_
        refine lv_aload_n hx hb dX2_findBests_38 rfl (lv_at hl 0 rfl) ?_
        refine lv_iload_n hx hb dX2_findBests_39 rfl (lv_at hl 1 rfl) ?_
        refine lv_iload_n hx hb dX2_findBests_40 rfl (lv_at hl 1 rfl) ?_
        refine lv_iconst (v := 1) hx hb dX2_findBests_41 (by decide) ?_
        refine lv_isub hx hb dX2_findBests_42 ?_
        refine lv_iand hx hb dX2_findBests_43 ?_
        refine mk_i (w2 := fun u : Unit => wd_X2 cI cJ cZ cH aH aE aEd aEf aEs aS aSd aSf aSg aL aLb aLk aLe h_rate h_wrap e_days e_firsts e_seconds e_size s_days s_fars s_goods l_bests l_kept l_enough l_known) (wc := wd_X2 cI cJ cZ cH aH aE aEd aEf aEs aS aSd aSf aSg aL aLb aLk aLe h_rate h_wrap e_days e_firsts e_seconds e_size s_days s_fars s_goods l_bests l_kept l_enough l_known) hP hD hS hA [0, 1, 2, 3, 4, 5, 6, 7, 8, 9, 10, 11, 12] [] [0, 1, 2, 3, 4, 5, 6, 7, 8, 9, 10, 11, 12] rfl rfl rfl rfl (by decide) rfl (fun _ => rfl) (fun hPc hDc => va_runV (As := [.int (v1 &&& (v1 - (1 : Int32)))]) (rest := [.ref aL]) ⟨hx, hb, hml, hown, hts⟩ (c_X2_lastOf l dC dI cI cJ cZ cH aH aE aEd aEf aEs aS aSd aSf aSg aL aLb aLk aLe H.size h_rate h_wrap e_days e_firsts e_seconds e_size s_days s_fars s_goods l_bests l_kept l_enough l_known (v1 &&& (v1 - (1 : Int32))) hf) (cwV 1 hts (gV kw654 kw656 kp30 kw9 kw657) rfl rfl rfl (by decide +kernel) ⟨Nat.le_of_ble_eq_true rfl, Nat.le_of_ble_eq_true rfl⟩) ⟨PX_blind, va_recv hK hPc (ci := 2) (q0 := 9) rfl rfl, PX_pre hPc hDc hK hN⟩ rfl rfl hl.1 rfl (lv_room (Nat.le_of_ble_eq_true rfl)) dX2_findBests_44 ⟨Nat.le_of_ble_eq_true rfl, Nat.le_of_ble_eq_true rfl⟩) (fun r44_2 u H locs hf hP hD hS => ?_)
        try dsimp only at hf
        have hP : va_P (dC, dI) vwCl (wd_X2 cI cJ cZ cH aH aE aEd aEf aEs aS aSd aSf aSg aL aLb aLk aLe h_rate h_wrap e_days e_firsts e_seconds e_size s_days s_fars s_goods l_bests l_kept l_enough l_known) H := hP
        have hD : va_D A (wd_X2 cI cJ cZ cH aH aE aEd aEf aEs aS aSd aSf aSg aL aLb aLk aLe h_rate h_wrap e_days e_firsts e_seconds e_size s_days s_fars s_goods l_bests l_kept l_enough l_known) := hD
        refine lv_aload_n hx hb dX2_findBests_47 rfl (lv_at hl 0 rfl) ?_
        refine lv_iload_n hx hb dX2_findBests_48 rfl (lv_at hl 1 rfl) ?_
        refine mk_i (w2 := fun u : Unit => wd_X2 cI cJ cZ cH aH aE aEd aEf aEs aS aSd aSf aSg aL aLb aLk aLe h_rate h_wrap e_days e_firsts e_seconds e_size s_days s_fars s_goods l_bests l_kept l_enough l_known) (wc := wd_X2 cI cJ cZ cH aH aE aEd aEf aEs aS aSd aSf aSg aL aLb aLk aLe h_rate h_wrap e_days e_firsts e_seconds e_size s_days s_fars s_goods l_bests l_kept l_enough l_known) hP hD hS hA [0, 1, 2, 3, 4, 5, 6, 7, 8, 9, 10, 11, 12] [] [0, 1, 2, 3, 4, 5, 6, 7, 8, 9, 10, 11, 12] rfl rfl rfl rfl (by decide) rfl (fun _ => rfl) (fun hPc hDc => va_runV (As := [.int v1]) (rest := [.int r44_2, .ref aL]) ⟨hx, hb, hml, hown, hts⟩ (c_X2_lastOf l dC dI cI cJ cZ cH aH aE aEd aEf aEs aS aSd aSf aSg aL aLb aLk aLe H.size h_rate h_wrap e_days e_firsts e_seconds e_size s_days s_fars s_goods l_bests l_kept l_enough l_known v1 hf) (cwV 1 hts (gV kw654 kw656 kp30 kw9 kw657) rfl rfl rfl (by decide +kernel) ⟨Nat.le_of_ble_eq_true rfl, Nat.le_of_ble_eq_true rfl⟩) ⟨PX_blind, va_recv hK hPc (ci := 2) (q0 := 9) rfl rfl, PX_pre hPc hDc hK hN⟩ rfl rfl hl.1 rfl (lv_room (Nat.le_of_ble_eq_true rfl)) dX2_findBests_49 ⟨Nat.le_of_ble_eq_true rfl, Nat.le_of_ble_eq_true rfl⟩) (fun r49_3 u H locs hf hP hD hS => ?_)
        try dsimp only at hf
        have hP : va_P (dC, dI) vwCl (wd_X2 cI cJ cZ cH aH aE aEd aEf aEs aS aSd aSf aSg aL aLb aLk aLe h_rate h_wrap e_days e_firsts e_seconds e_size s_days s_fars s_goods l_bests l_kept l_enough l_known) H := hP
        have hD : va_D A (wd_X2 cI cJ cZ cH aH aE aEd aEf aEs aS aSd aSf aSg aL aLb aLk aLe h_rate h_wrap e_days e_firsts e_seconds e_size s_days s_fars s_goods l_bests l_kept l_enough l_known) := hD
        refine mk_i (w2 := fun u : (Nat → Int32) => wd_X2 cI cJ cZ cH aH aE aEd aEf aEs aS aSd aSf aSg aL aLb aLk aLe h_rate h_wrap e_days e_firsts e_seconds e_size s_days s_fars s_goods l_bests u l_enough l_known) (wc := wd_X2 cI cJ cZ cH aH aE aEd aEf aEs aS aSd aSf aSg aL aLb aLk aLe h_rate h_wrap e_days e_firsts e_seconds e_size s_days s_fars s_goods l_bests l_kept l_enough l_known) hP hD hS hA [0, 1, 2, 3, 4, 5, 6, 7, 8, 9, 10, 11, 12] [] [0, 1, 2, 3, 4, 5, 6, 7, 8, 9, 10, 11, 12] rfl rfl rfl rfl (by decide) rfl (fun _ => rfl) (fun hPc hDc => va_runV (As := [.int r44_2, .int r49_3]) (rest := []) ⟨hx, hb, hml, hown, hts⟩ (c_X2_keepLast l dC dI cI cJ cZ cH aH aE aEd aEf aEs aS aSd aSf aSg aL aLb aLk aLe H.size h_rate h_wrap e_days e_firsts e_seconds e_size s_days s_fars s_goods l_bests l_kept l_enough l_known r44_2 r49_3 hf) (cwV 2 hts (gV kw662 kw664 kp31 kw9 kw665) rfl rfl rfl (by decide +kernel) ⟨Nat.le_of_ble_eq_true rfl, Nat.le_of_ble_eq_true rfl⟩) ⟨PX_blind, va_recv hK hPc (ci := 2) (q0 := 9) rfl rfl, PX_pre hPc hDc hK hN⟩ rfl rfl hl.1 rfl (lv_room (Nat.le_of_ble_eq_true rfl)) dX2_findBests_52 ⟨Nat.le_of_ble_eq_true rfl, Nat.le_of_ble_eq_true rfl⟩) (fun r52_5 l_kept_52_4 H locs hf hP hD hS => ?_)
        try dsimp only at hf
        have hP : va_P (dC, dI) vwCl (wd_X2 cI cJ cZ cH aH aE aEd aEf aEs aS aSd aSf aSg aL aLb aLk aLe h_rate h_wrap e_days e_firsts e_seconds e_size s_days s_fars s_goods l_bests l_kept_52_4 l_enough l_known) H := hP
        have hD : va_D A (wd_X2 cI cJ cZ cH aH aE aEd aEf aEs aS aSd aSf aSg aL aLb aLk aLe h_rate h_wrap e_days e_firsts e_seconds e_size s_days s_fars s_goods l_bests l_kept_52_4 l_enough l_known) := hD
        refine lv_istore_n (lv' := [(2, .int r52_5), (0, .ref aL), (1, .int v1)]) hx hb dX2_findBests_55 rfl hl (by decide) rfl (fun ls hl => ?_)
        refine lv_aload_n hx hb dX2_findBests_56 rfl (lv_at hl 1 rfl) ?_
        refine va_get (D := (dC, dI)) (ci := 2) (v := .ref aLb) (C := RX2) (T := TX2) (N := 5) hx hb hts inX2 hown hK hP 9 rfl rfl 1 (by decide) (hts _ kw252) (fun _ h9 => h9) rfl dX2_findBests_57 ?_
        refine lv_iload_n hx hb dX2_findBests_60 rfl (lv_at hl 2 rfl) ?_
        refine lv_iload_n hx hb dX2_findBests_61 rfl (lv_at hl 0 rfl) ?_
        refine lv_aload_n hx hb dX2_findBests_62 rfl (lv_at hl 1 rfl) ?_
        refine lv_iload_n hx hb dX2_findBests_63 rfl (lv_at hl 2 rfl) ?_
        refine mk_i (w2 := fun u : Unit => wd_X2 cI cJ cZ cH aH aE aEd aEf aEs aS aSd aSf aSg aL aLb aLk aLe h_rate h_wrap e_days e_firsts e_seconds e_size s_days s_fars s_goods l_bests l_kept_52_4 l_enough l_known) (wc := wd_X2 cI cJ cZ cH aH aE aEd aEf aEs aS aSd aSf aSg aL aLb aLk aLe h_rate h_wrap e_days e_firsts e_seconds e_size s_days s_fars s_goods l_bests l_kept_52_4 l_enough l_known) hP hD hS hA [0, 1, 2, 3, 4, 5, 6, 7, 8, 9, 10, 11, 12] [] [0, 1, 2, 3, 4, 5, 6, 7, 8, 9, 10, 11, 12] rfl rfl rfl rfl (by decide) rfl (fun _ => rfl) (fun hPc hDc => va_runV (As := [.int v1]) (rest := [.int r52_5, .int v1, .ref aLb]) ⟨hx, hb, hml, hown, hts⟩ (c_X2_bestWithoutOne l dC dI cI cJ cZ cH aH aE aEd aEf aEs aS aSd aSf aSg aL aLb aLk aLe H.size h_rate h_wrap e_days e_firsts e_seconds e_size s_days s_fars s_goods l_bests l_kept_52_4 l_enough l_known v1 hf) (cwV 1 hts (gV kw673 kw675 kp33 kw9 kw676) rfl rfl rfl (by decide +kernel) ⟨Nat.le_of_ble_eq_true rfl, Nat.le_of_ble_eq_true rfl⟩) ⟨PX_blind, va_recv hK hPc (ci := 2) (q0 := 9) rfl rfl, PX_pre hPc hDc hK hN⟩ rfl rfl hl.1 rfl (lv_room (Nat.le_of_ble_eq_true rfl)) dX2_findBests_64 ⟨Nat.le_of_ble_eq_true rfl, Nat.le_of_ble_eq_true rfl⟩) (fun r64_6 u H locs hf hP hD hS => ?_)
        try dsimp only at hf
        have hP : va_P (dC, dI) vwCl (wd_X2 cI cJ cZ cH aH aE aEd aEf aEs aS aSd aSf aSg aL aLb aLk aLe h_rate h_wrap e_days e_firsts e_seconds e_size s_days s_fars s_goods l_bests l_kept_52_4 l_enough l_known) H := hP
        have hD : va_D A (wd_X2 cI cJ cZ cH aH aE aEd aEf aEs aS aSd aSf aSg aL aLb aLk aLe h_rate h_wrap e_days e_firsts e_seconds e_size s_days s_fars s_goods l_bests l_kept_52_4 l_enough l_known) := hD
        refine va_mmax hx hb (hml.trans hl.1.symm) hown (hts _ kw672) (hts _ kw318) (hts _ kw11) (hts _ kw319) (Nat.le_of_ble_eq_true rfl) (Nat.le_of_ble_eq_true rfl) (Nat.le_of_ble_eq_true rfl) (Nat.le_of_ble_eq_true rfl) dX2_findBests_67 ?_
        refine lv_topi (fun x67_7 ex67_7 => ?_)
        have hf := hf x67_7 ex67_7
        obtain ⟨hin, hf⟩ := hf
        refine va_iast hx hb hK hP hD hS 10 0 rfl rfl hin dX2_findBests_70 (fun H locs hP hD hS => ?_)
        have hP : va_P (dC, dI) vwCl (wd_X2 cI cJ cZ cH aH aE aEd aEf aEs aS aSd aSf aSg aL aLb aLk aLe h_rate h_wrap e_days e_firsts e_seconds e_size s_days s_fars s_goods (upd l_bests v1.toNatClampNeg x67_7) l_kept_52_4 l_enough l_known) H := hP
        have hD : va_D A (wd_X2 cI cJ cZ cH aH aE aEd aEf aEs aS aSd aSf aSg aL aLb aLk aLe h_rate h_wrap e_days e_firsts e_seconds e_size s_days s_fars s_goods (upd l_bests v1.toNatClampNeg x67_7) l_kept_52_4 l_enough l_known) := hD
        obtain ⟨x71_8, ex71_8⟩ : ∃ y : Int32, y = v1 + 1 := ⟨_, rfl⟩
        have hf := hf x71_8 ex71_8
        refine lv_iinc (v := x71_8) (lv' := [(1, .int x71_8), (2, .int r52_5), (0, .ref aL)]) hx hb dX2_findBests_71 hl (k := 2) rfl (by rw [ex71_8]; rfl) (by decide) rfl (fun ls hl => ?_)
        refine lv_goto (tgt := 24) hx hb dX2_findBests_74 (by decide) ?_
        exact hK24 x71_8 (upd l_bests v1.toNatClampNeg x67_7) l_kept_52_4 l_known hf _ _ _ hP hD hS (lv_sub hl [2, 0] rfl)
  unfold wp_X2_findBests at hf
  refine lv_aload_n hx hb dX2_findBests_0 rfl (lv_at hl 0 rfl) ?_
  refine va_get (D := (dC, dI)) (ci := 2) (v := .ref aLk) (C := RX2) (T := TX2) (N := 5) hx hb hts inX2 hown hK hP 9 rfl rfl 2 (by decide) (hts _ kw253) (fun _ h9 => h9) rfl dX2_findBests_1 ?_
  refine lv_iconst (v := (-1)) hx hb dX2_findBests_4 (by decide) ?_
  refine mk_v (w2 := fun u : (Nat → Int32) => wd_X2 cI cJ cZ cH aH aE aEd aEf aEs aS aSd aSf aSg aL aLb aLk aLe h_rate h_wrap e_days e_firsts e_seconds e_size s_days s_fars s_goods l_bests u l_enough l_known) (wc := wd_AI cI cJ cZ cH 88 aLk l_kept) hP hD hS hA [11] [0, 1, 2, 3, 4, 5, 6, 7, 8, 9, 10, 12] [0, 1, 2, 3, 4, 5, 6, 7, 8, 9, 10, 12, 11] rfl rfl rfl rfl (by decide) rfl (fun _ => rfl) (fun hPc hDc => va_runS (As := [.ref aLk, .int (-1 : Int32)]) (rest := []) ⟨hx, hb, hml, hown, hts⟩ (c_J7_fill_53178 l dC dI cI cJ cZ cH aLk s.heap.size 88 l_kept (-1 : Int32) hf) (va_cwS 2 hts (gS kw652 kw291 kw10 kw292) rfl rfl rfl (by decide +kernel) ⟨Nat.le_of_ble_eq_true rfl, Nat.le_of_ble_eq_true rfl⟩) ⟨PX_blind, PX_pre hPc hDc hK hN⟩ rfl rfl hl.1 rfl (lv_room (Nat.le_of_ble_eq_true rfl)) dX2_findBests_5 ⟨Nat.le_of_ble_eq_true rfl, Nat.le_of_ble_eq_true rfl⟩) (fun f_row_5_9 H locs hf hP hD hS => ?_)
  try dsimp only at hf
  have hP : va_P (dC, dI) vwCl (wd_X2 cI cJ cZ cH aH aE aEd aEf aEs aS aSd aSf aSg aL aLb aLk aLe h_rate h_wrap e_days e_firsts e_seconds e_size s_days s_fars s_goods l_bests f_row_5_9 l_enough l_known) H := hP
  have hD : va_D A (wd_X2 cI cJ cZ cH aH aE aEd aEf aEs aS aSd aSf aSg aL aLb aLk aLe h_rate h_wrap e_days e_firsts e_seconds e_size s_days s_fars s_goods l_bests f_row_5_9 l_enough l_known) := hD
  refine lv_aload_n hx hb dX2_findBests_8 rfl (lv_at hl 0 rfl) ?_
  refine va_get (D := (dC, dI)) (ci := 2) (v := .ref aLk) (C := RX2) (T := TX2) (N := 5) hx hb hts inX2 hown hK hP 9 rfl rfl 2 (by decide) (hts _ kw253) (fun _ h9 => h9) rfl dX2_findBests_9 ?_
  refine lv_iconst (v := 0) hx hb dX2_findBests_12 (by decide) ?_
  refine lv_iconst (v := 0) hx hb dX2_findBests_13 (by decide) ?_
  refine va_iast hx hb hK hP hD hS 11 0 rfl rfl (by unfold vp_in; decide) dX2_findBests_14 (fun H locs hP hD hS => ?_)
  have hP : va_P (dC, dI) vwCl (wd_X2 cI cJ cZ cH aH aE aEd aEf aEs aS aSd aSf aSg aL aLb aLk aLe h_rate h_wrap e_days e_firsts e_seconds e_size s_days s_fars s_goods l_bests (upd f_row_5_9 (0 : Int32).toNatClampNeg (0 : Int32)) l_enough l_known) H := hP
  have hD : va_D A (wd_X2 cI cJ cZ cH aH aE aEd aEf aEs aS aSd aSf aSg aL aLb aLk aLe h_rate h_wrap e_days e_firsts e_seconds e_size s_days s_fars s_goods l_bests (upd f_row_5_9 (0 : Int32).toNatClampNeg (0 : Int32)) l_enough l_known) := hD
  refine lv_aload_n hx hb dX2_findBests_15 rfl (lv_at hl 0 rfl) ?_
  refine va_get (D := (dC, dI)) (ci := 2) (v := .ref aLb) (C := RX2) (T := TX2) (N := 5) hx hb hts inX2 hown hK hP 9 rfl rfl 1 (by decide) (hts _ kw252) (fun _ h9 => h9) rfl dX2_findBests_16 ?_
  refine lv_iconst (v := 0) hx hb dX2_findBests_19 (by decide) ?_
  refine lv_iconst (v := 0) hx hb dX2_findBests_20 (by decide) ?_
  refine va_iast hx hb hK hP hD hS 10 0 rfl rfl (by unfold vp_in; decide) dX2_findBests_21 (fun H locs hP hD hS => ?_)
  have hP : va_P (dC, dI) vwCl (wd_X2 cI cJ cZ cH aH aE aEd aEf aEs aS aSd aSf aSg aL aLb aLk aLe h_rate h_wrap e_days e_firsts e_seconds e_size s_days s_fars s_goods (upd l_bests (0 : Int32).toNatClampNeg (0 : Int32)) (upd f_row_5_9 (0 : Int32).toNatClampNeg (0 : Int32)) l_enough l_known) H := hP
  have hD : va_D A (wd_X2 cI cJ cZ cH aH aE aEd aEf aEs aS aSd aSf aSg aL aLb aLk aLe h_rate h_wrap e_days e_firsts e_seconds e_size s_days s_fars s_goods (upd l_bests (0 : Int32).toNatClampNeg (0 : Int32)) (upd f_row_5_9 (0 : Int32).toNatClampNeg (0 : Int32)) l_enough l_known) := hD
  refine lv_iconst (v := 1) hx hb dX2_findBests_22 (by decide) ?_
  refine lv_istore_n (lv' := [(1, .int (1 : Int32)), (0, .ref aL)]) hx hb dX2_findBests_23 rfl hl (by decide) rfl (fun ls hl => ?_)
  obtain ⟨n9, hf⟩ := hf
  exact L24  n9 (1 : Int32) (upd l_bests (0 : Int32).toNatClampNeg (0 : Int32)) (upd f_row_5_9 (0 : Int32).toNatClampNeg (0 : Int32)) l_known hf _ _ _ hP hD hS (lv_sub hl [1, 0] rfl)
abbrev rm_J6_bitCount_0f7a4 : Room := { frames := 0, cells := 0, slots := 0, locals := 0 }
set_option maxHeartbeats 4000000 in
set_option maxRecDepth 100000 in
theorem c_J6_bitCount_0f7a4 (l : Launch) (dC : Nat → ClassId) (dI : Nat → Nat → Nat) (cI cJ cZ cH : ClassId) (sz : Nat) (p0 : Int32) {Q : Int32 → Prop} (hf : wp_J6_bitCount_0f7a4 p0 Q) : Met l yJ6_bitCount_0f7a4 (.code yJ6_bitCount_0f7a4 cJ6_bitCount_0f7a4 1 (some .int) :: GW) rm_J6_bitCount_0f7a4 (va_Pc [.int p0] (PX (dC, dI) cI cJ cZ cH (wd_E cI cJ cZ cH ) sz)) (va_Qi (fun (r : Int32) (_u : Unit) => Q r ) (fun u t => BX (dC, dI) (wd_E cI cJ cZ cH ) (va_A (wd_E cI cJ cZ cH ) sz) t) (va_A (wd_E cI cJ cZ cH ) sz)) 0 0 (va_A (wd_E cI cJ cZ cH ) sz) := by
  refine Met_i (w1 := fun u : Unit => wd_E cI cJ cZ cH ) (by decide) (Nat.le_of_ble_eq_true rfl) ?_
  intro p e s m below meth c A Z ls hsz hx hb hml hown hts hmn hA hP hK hN hD hS hl hRet
  have hown : s.vm.findClass "java/lang/Integer" = some m.cls := hown
  have hl : lv_has ls 1 [(0, .int p0)] := hl
  unfold wp_J6_bitCount_0f7a4 at hf
  refine lv_iload_n hx hb dJ6_bitCount_0f7a4_0 rfl (lv_at hl 0 rfl) ?_
  refine lv_iload_n hx hb dJ6_bitCount_0f7a4_1 rfl (lv_at hl 0 rfl) ?_
  refine lv_iconst (v := 1) hx hb dJ6_bitCount_0f7a4_2 (by decide) ?_
  refine lv_iushr hx hb dJ6_bitCount_0f7a4_3 rfl ?_
  refine lv_topi (fun x3_1 ex3_1 => ?_)
  have hf := hf x3_1 ex3_1
  refine lv_ldcw (v := 1431655765) hx hb hown (hts _ kw684) dJ6_bitCount_0f7a4_4 ?_
  refine lv_iand hx hb dJ6_bitCount_0f7a4_7 ?_
  refine lv_isub hx hb dJ6_bitCount_0f7a4_8 ?_
  refine lv_topi (fun x9_2 ex9_2 => ?_)
  have hf := hf x9_2 ex9_2
  refine lv_istore_n (lv' := [(0, .int x9_2)]) hx hb dJ6_bitCount_0f7a4_9 rfl hl (by decide) rfl (fun ls hl => ?_)
  refine lv_iload_n hx hb dJ6_bitCount_0f7a4_10 rfl (lv_at hl 0 rfl) ?_
  refine lv_ldcw (v := 858993459) hx hb hown (hts _ kw685) dJ6_bitCount_0f7a4_11 ?_
  refine lv_iand hx hb dJ6_bitCount_0f7a4_14 ?_
  refine lv_iload_n hx hb dJ6_bitCount_0f7a4_15 rfl (lv_at hl 0 rfl) ?_
  refine lv_iconst (v := 2) hx hb dJ6_bitCount_0f7a4_16 (by decide) ?_
  refine lv_iushr hx hb dJ6_bitCount_0f7a4_17 rfl ?_
  refine lv_topi (fun x17_3 ex17_3 => ?_)
  have hf := hf x17_3 ex17_3
  refine lv_ldcw (v := 858993459) hx hb hown (hts _ kw685) dJ6_bitCount_0f7a4_18 ?_
  refine lv_iand hx hb dJ6_bitCount_0f7a4_21 ?_
  refine lv_iadd hx hb dJ6_bitCount_0f7a4_22 ?_
  refine lv_topi (fun x23_4 ex23_4 => ?_)
  have hf := hf x23_4 ex23_4
  refine lv_istore_n (lv' := [(0, .int x23_4)]) hx hb dJ6_bitCount_0f7a4_23 rfl hl (by decide) rfl (fun ls hl => ?_)
  refine lv_iload_n hx hb dJ6_bitCount_0f7a4_24 rfl (lv_at hl 0 rfl) ?_
  refine lv_iload_n hx hb dJ6_bitCount_0f7a4_25 rfl (lv_at hl 0 rfl) ?_
  refine lv_iconst (v := 4) hx hb dJ6_bitCount_0f7a4_26 (by decide) ?_
  refine lv_iushr hx hb dJ6_bitCount_0f7a4_27 rfl ?_
  refine lv_topi (fun x27_5 ex27_5 => ?_)
  have hf := hf x27_5 ex27_5
  refine lv_iadd hx hb dJ6_bitCount_0f7a4_28 ?_
  refine lv_ldcw (v := 252645135) hx hb hown (hts _ kw686) dJ6_bitCount_0f7a4_29 ?_
  refine lv_iand hx hb dJ6_bitCount_0f7a4_32 ?_
  refine lv_topi (fun x33_6 ex33_6 => ?_)
  have hf := hf x33_6 ex33_6
  refine lv_istore_n (lv' := [(0, .int x33_6)]) hx hb dJ6_bitCount_0f7a4_33 rfl hl (by decide) rfl (fun ls hl => ?_)
  refine lv_iload_n hx hb dJ6_bitCount_0f7a4_34 rfl (lv_at hl 0 rfl) ?_
  refine lv_iload_n hx hb dJ6_bitCount_0f7a4_35 rfl (lv_at hl 0 rfl) ?_
  refine lv_bipush (v := 8) hx hb dJ6_bitCount_0f7a4_36 (by decide) ?_
  refine lv_iushr hx hb dJ6_bitCount_0f7a4_38 rfl ?_
  refine lv_topi (fun x38_7 ex38_7 => ?_)
  have hf := hf x38_7 ex38_7
  refine lv_iadd hx hb dJ6_bitCount_0f7a4_39 ?_
  refine lv_topi (fun x40_8 ex40_8 => ?_)
  have hf := hf x40_8 ex40_8
  refine lv_istore_n (lv' := [(0, .int x40_8)]) hx hb dJ6_bitCount_0f7a4_40 rfl hl (by decide) rfl (fun ls hl => ?_)
  refine lv_iload_n hx hb dJ6_bitCount_0f7a4_41 rfl (lv_at hl 0 rfl) ?_
  refine lv_iload_n hx hb dJ6_bitCount_0f7a4_42 rfl (lv_at hl 0 rfl) ?_
  refine lv_bipush (v := 16) hx hb dJ6_bitCount_0f7a4_43 (by decide) ?_
  refine lv_iushr hx hb dJ6_bitCount_0f7a4_45 rfl ?_
  refine lv_topi (fun x45_9 ex45_9 => ?_)
  have hf := hf x45_9 ex45_9
  refine lv_iadd hx hb dJ6_bitCount_0f7a4_46 ?_
  refine lv_topi (fun x47_10 ex47_10 => ?_)
  have hf := hf x47_10 ex47_10
  refine lv_istore_n (lv' := [(0, .int x47_10)]) hx hb dJ6_bitCount_0f7a4_47 rfl hl (by decide) rfl (fun ls hl => ?_)
  refine lv_iload_n hx hb dJ6_bitCount_0f7a4_48 rfl (lv_at hl 0 rfl) ?_
  refine lv_bipush (v := 63) hx hb dJ6_bitCount_0f7a4_49 (by decide) ?_
  refine lv_iand hx hb dJ6_bitCount_0f7a4_51 ?_
  exact hRet _ _ _ _ (x47_10 &&& (63 : Int32)) () hf hP hD hS dJ6_bitCount_0f7a4_52
abbrev rm_X2_countEnough : Room := { frames := 1, cells := 0, slots := 0, locals := 23 }
set_option maxHeartbeats 4000000 in
set_option maxRecDepth 100000 in
theorem c_X2_countEnough (l : Launch) (dC : Nat → ClassId) (dI : Nat → Nat → Nat) (cI cJ cZ cH : ClassId) (aH : Nat) (aE : Nat) (aEd : Nat) (aEf : Nat) (aEs : Nat) (aS : Nat) (aSd : Nat) (aSf : Nat) (aSg : Nat) (aL : Nat) (aLb : Nat) (aLk : Nat) (aLe : Nat) (sz : Nat) (h_rate : Int32) (h_wrap : Int32) (e_days : Nat → Int32) (e_firsts : Nat → Int32) (e_seconds : Nat → Int32) (e_size : Int32) (s_days : Nat → Int32) (s_fars : Nat → Int32) (s_goods : Nat → Int32) (l_bests : Nat → Int32) (l_kept : Nat → Int32) (l_enough : Nat → Int32) (l_known : Int32) (p1 : Int32) {Q : (Nat → Int32) → Prop} (hf : wp_X2_countEnough e_size l_bests l_enough p1 Q) : Met l yX2_countEnough (.code yX2_countEnough cX2_countEnough 3 none :: GW) rm_X2_countEnough (va_Pc [.ref aL, .int p1] (PX (dC, dI) cI cJ cZ cH (wd_X2 cI cJ cZ cH aH aE aEd aEf aEs aS aSd aSf aSg aL aLb aLk aLe h_rate h_wrap e_days e_firsts e_seconds e_size s_days s_fars s_goods l_bests l_kept l_enough l_known) sz)) (va_Qv (fun (u : (Nat → Int32)) => Q u) (fun u t => BX (dC, dI) (wd_X2 cI cJ cZ cH aH aE aEd aEf aEs aS aSd aSf aSg aL aLb aLk aLe h_rate h_wrap e_days e_firsts e_seconds e_size s_days s_fars s_goods l_bests l_kept u l_known) (va_A (wd_X2 cI cJ cZ cH aH aE aEd aEf aEs aS aSd aSf aSg aL aLb aLk aLe h_rate h_wrap e_days e_firsts e_seconds e_size s_days s_fars s_goods l_bests l_kept l_enough l_known) sz) t) (va_A (wd_X2 cI cJ cZ cH aH aE aEd aEf aEs aS aSd aSf aSg aL aLb aLk aLe h_rate h_wrap e_days e_firsts e_seconds e_size s_days s_fars s_goods l_bests l_kept l_enough l_known) sz)) 0 0 (va_A (wd_X2 cI cJ cZ cH aH aE aEd aEf aEs aS aSd aSf aSg aL aLb aLk aLe h_rate h_wrap e_days e_firsts e_seconds e_size s_days s_fars s_goods l_bests l_kept l_enough l_known) sz) := by
  refine Met_v (w1 := fun u : (Nat → Int32) => wd_X2 cI cJ cZ cH aH aE aEd aEf aEs aS aSd aSf aSg aL aLb aLk aLe h_rate h_wrap e_days e_firsts e_seconds e_size s_days s_fars s_goods l_bests l_kept u l_known) (by decide) (Nat.le_of_ble_eq_true rfl) ?_
  intro p e s m below meth c A Z ls hsz hx hb hml hown hts hmn hA hP hK hN hD hS hl hRet
  have hown : s.vm.findClass "MilesKept$Losses" = some m.cls := hown
  have hl : lv_has ls 3 [(0, .ref aL), (1, .int p1)] := hl
  have J46 : ∀ (K10 : Int32 → Int32 → (Nat → Int32) → Prop) (hK10 : ∀ (v1 : Int32) (v2 : Int32) (l_enough : Nat → Int32), K10 v1 v2 l_enough → ∀ (H : Heap) (locs : List Loc) (ls : Array Slot), va_P (dC, dI) vwCl (wd_X2 cI cJ cZ cH aH aE aEd aEf aEs aS aSd aSf aSg aL aLb aLk aLe h_rate h_wrap e_days e_firsts e_seconds e_size s_days s_fars s_goods l_bests l_kept l_enough l_known) H → va_D A (wd_X2 cI cJ cZ cH aH aE aEd aEf aEs aS aSd aSf aSg aL aLb aLk aLe h_rate h_wrap e_days e_firsts e_seconds e_size s_days s_fars s_goods l_bests l_kept l_enough l_known) → va_S A s.heap H locs → lv_has ls 3 [(0, .ref aL), (1, .int v1), (2, .int v2)] → W p l e rm_X2_countEnough s m ([Value.ref aL, Value.int p1] : List Value).toArray below meth c H locs 0 0 Z (F0 m 10 ls [])), ∀ (v1 : Int32) (v2 : Int32) (l_enough : Nat → Int32), wp_X2_countEnough_b46 e_size l_bests Q K10 v1 v2 l_enough → ∀ (H : Heap) (locs : List Loc) (ls : Array Slot), va_P (dC, dI) vwCl (wd_X2 cI cJ cZ cH aH aE aEd aEf aEs aS aSd aSf aSg aL aLb aLk aLe h_rate h_wrap e_days e_firsts e_seconds e_size s_days s_fars s_goods l_bests l_kept l_enough l_known) H → va_D A (wd_X2 cI cJ cZ cH aH aE aEd aEf aEs aS aSd aSf aSg aL aLb aLk aLe h_rate h_wrap e_days e_firsts e_seconds e_size s_days s_fars s_goods l_bests l_kept l_enough l_known) → va_S A s.heap H locs → lv_has ls 3 [(0, .ref aL), (1, .int v1), (2, .int v2)] → W p l e rm_X2_countEnough s m ([Value.ref aL, Value.int p1] : List Value).toArray below meth c H locs 0 0 Z (F0 m 46 ls []) := by
    intro K10 hK10 v1 v2 l_enough hf H locs ls hP hD hS hl
    unfold wp_X2_countEnough_b46 at hf
    obtain ⟨x46_1, ex46_1⟩ : ∃ y : Int32, y = v2 + 1 := ⟨_, rfl⟩
    have hf := hf x46_1 ex46_1
    refine lv_iinc (v := x46_1) (lv' := [(2, .int x46_1), (0, .ref aL), (1, .int v1)]) hx hb dX2_countEnough_46 hl (k := 2) rfl (by rw [ex46_1]; rfl) (by decide) rfl (fun ls hl => ?_)
    refine lv_goto (tgt := 10) hx hb dX2_countEnough_49 (by decide) ?_
    exact hK10 v1 x46_1 l_enough hf _ _ _ hP hD hS (lv_sub hl [1, 2, 0] rfl)
  have L10 : ∀ (n : Nat) (v1 : Int32) (v2 : Int32) (l_enough : Nat → Int32), wp_X2_countEnough_h10 e_size l_bests Q  n v1 v2 l_enough → ∀ (H : Heap) (locs : List Loc) (ls : Array Slot), va_P (dC, dI) vwCl (wd_X2 cI cJ cZ cH aH aE aEd aEf aEs aS aSd aSf aSg aL aLb aLk aLe h_rate h_wrap e_days e_firsts e_seconds e_size s_days s_fars s_goods l_bests l_kept l_enough l_known) H → va_D A (wd_X2 cI cJ cZ cH aH aE aEd aEf aEs aS aSd aSf aSg aL aLb aLk aLe h_rate h_wrap e_days e_firsts e_seconds e_size s_days s_fars s_goods l_bests l_kept l_enough l_known) → va_S A s.heap H locs → lv_has ls 3 [(0, .ref aL), (1, .int v1), (2, .int v2)] → W p l e rm_X2_countEnough s m ([Value.ref aL, Value.int p1] : List Value).toArray below meth c H locs 0 0 Z (F0 m 10 ls []) := by
    intro n
    induction n with
    | zero =>
      intro v1 v2 l_enough hf
      exact False.elim hf
    | succ n hK10 =>
      intro v1 v2 l_enough hf H locs ls hP hD hS hl
      simp only [wp_X2_countEnough_h10] at hf
      refine lv_iload_n hx hb dX2_countEnough_10 rfl (lv_at hl 2 rfl) ?_
      refine lv_iconst (v := 1) hx hb dX2_countEnough_11 (by decide) ?_
      refine lv_aload_n hx hb dX2_countEnough_12 rfl (lv_at hl 0 rfl) ?_
      refine va_get (D := (dC, dI)) (ci := 2) (v := .ref aS) (C := RX2) (T := TX2) (N := 5) hx hb hts inX2 hown hK hP 9 rfl rfl 0 (by decide) (hts _ kw251) (fun _ h9 => h9) rfl dX2_countEnough_13 ?_
      refine mk_i (w2 := fun u : Unit => wd_X2 cI cJ cZ cH aH aE aEd aEf aEs aS aSd aSf aSg aL aLb aLk aLe h_rate h_wrap e_days e_firsts e_seconds e_size s_days s_fars s_goods l_bests l_kept l_enough l_known) (wc := wd_X6 cI cJ cZ cH aH aE aEd aEf aEs aS aSd aSf aSg h_rate h_wrap e_days e_firsts e_seconds e_size s_days s_fars s_goods) hP hD hS hA [0, 1, 2, 3, 4, 5, 6, 7, 8] [9, 10, 11, 12] [4, 5, 6, 7, 8, 9, 10, 11, 12, 0, 1, 2, 3] rfl rfl rfl rfl (by decide) rfl (fun _ => rfl) (fun hPc hDc => va_runV (As := []) (rest := [.int (1 : Int32), .int v2]) ⟨hx, hb, hml, hown, hts⟩ (c_X6_size l dC dI cI cJ cZ cH aH aE aEd aEf aEs aS aSd aSf aSg H.size h_rate h_wrap e_days e_firsts e_seconds e_size s_days s_fars s_goods hf) (cwV 0 hts (gV kw653 kw298 kw299 kw7 kw300) rfl rfl rfl (by decide +kernel) ⟨Nat.le_of_ble_eq_true rfl, Nat.le_of_ble_eq_true rfl⟩) ⟨PX_blind, va_recv hK hPc (ci := 6) (q0 := 5) rfl rfl, PX_pre hPc hDc hK hN⟩ rfl rfl hl.1 rfl (lv_room (Nat.le_of_ble_eq_true rfl)) dX2_countEnough_16 ⟨Nat.le_of_ble_eq_true rfl, Nat.le_of_ble_eq_true rfl⟩) (fun r16_2 u H locs hf hP hD hS => ?_)
      try dsimp only at hf
      have hP : va_P (dC, dI) vwCl (wd_X2 cI cJ cZ cH aH aE aEd aEf aEs aS aSd aSf aSg aL aLb aLk aLe h_rate h_wrap e_days e_firsts e_seconds e_size s_days s_fars s_goods l_bests l_kept l_enough l_known) H := hP
      have hD : va_D A (wd_X2 cI cJ cZ cH aH aE aEd aEf aEs aS aSd aSf aSg aL aLb aLk aLe h_rate h_wrap e_days e_firsts e_seconds e_size s_days s_fars s_goods l_bests l_kept l_enough l_known) := hD
      refine lv_ishl hx hb dX2_countEnough_19 ?_
      refine lv_icmp_ge (tgt := 52) hx hb dX2_countEnough_20 (by decide) (fun c20 => ?_) (fun c20 => ?_)
      · have hf := hf.1 c20
        exact hRet _ _ _ _ l_enough hf hP hD hS dX2_countEnough_52
      · have hf := hf.2 c20
        refine lv_aload_n hx hb dX2_countEnough_23 rfl (lv_at hl 0 rfl) ?_
        refine va_get (D := (dC, dI)) (ci := 2) (v := .ref aLb) (C := RX2) (T := TX2) (N := 5) hx hb hts inX2 hown hK hP 9 rfl rfl 1 (by decide) (hts _ kw252) (fun _ h9 => h9) rfl dX2_countEnough_24 ?_
        refine lv_iload_n hx hb dX2_countEnough_27 rfl (lv_at hl 2 rfl) ?_
        obtain ⟨hin, hf⟩ := hf
        refine va_iald hx hb hK hP 10 0 rfl rfl hin dX2_countEnough_28 ?_
        refine lv_iload_n hx hb dX2_countEnough_29 rfl (lv_at hl 1 rfl) ?_
        refine lv_icmp_lt (tgt := 46) hx hb dX2_countEnough_30 (by decide) (fun c30 => ?_) (fun c30 => ?_)
        · have hf := hf.1 c30
          exact J46 _ hK10 v1 v2 l_enough hf _ _ _ hP hD hS (lv_sub hl [0, 1, 2] rfl)
        · have hf := hf.2 c30
          refine lv_aload_n hx hb dX2_countEnough_33 rfl (lv_at hl 0 rfl) ?_
          refine va_get (D := (dC, dI)) (ci := 2) (v := .ref aLe) (C := RX2) (T := TX2) (N := 5) hx hb hts inX2 hown hK hP 9 rfl rfl 3 (by decide) (hts _ kw254) (fun _ h9 => h9) rfl dX2_countEnough_34 ?_
          refine lv_iload_n hx hb dX2_countEnough_37 rfl (lv_at hl 2 rfl) ?_
          refine mk_i (w2 := fun u : Unit => wd_X2 cI cJ cZ cH aH aE aEd aEf aEs aS aSd aSf aSg aL aLb aLk aLe h_rate h_wrap e_days e_firsts e_seconds e_size s_days s_fars s_goods l_bests l_kept l_enough l_known) (wc := wd_E cI cJ cZ cH ) hP hD hS hA [] [0, 1, 2, 3, 4, 5, 6, 7, 8, 9, 10, 11, 12] [0, 1, 2, 3, 4, 5, 6, 7, 8, 9, 10, 11, 12] rfl rfl rfl rfl (by decide) rfl (fun _ => rfl) (fun hPc hDc => va_runS (As := [.int v2]) (rest := [.ref aLe]) ⟨hx, hb, hml, hown, hts⟩ (c_J6_bitCount_0f7a4 l dC dI cI cJ cZ cH H.size v2 hf) (va_cwS 1 hts (gS kw681 kw682 kw13 kw683) rfl rfl rfl (by decide +kernel) ⟨Nat.le_of_ble_eq_true rfl, Nat.le_of_ble_eq_true rfl⟩) ⟨PX_blind, PX_pre hPc hDc hK hN⟩ rfl rfl hl.1 rfl (lv_room (Nat.le_of_ble_eq_true rfl)) dX2_countEnough_38 ⟨Nat.le_of_ble_eq_true rfl, Nat.le_of_ble_eq_true rfl⟩) (fun r38_3 u H locs hf hP hD hS => ?_)
          try dsimp only at hf
          have hP : va_P (dC, dI) vwCl (wd_X2 cI cJ cZ cH aH aE aEd aEf aEs aS aSd aSf aSg aL aLb aLk aLe h_rate h_wrap e_days e_firsts e_seconds e_size s_days s_fars s_goods l_bests l_kept l_enough l_known) H := hP
          have hD : va_D A (wd_X2 cI cJ cZ cH aH aE aEd aEf aEs aS aSd aSf aSg aL aLb aLk aLe h_rate h_wrap e_days e_firsts e_seconds e_size s_days s_fars s_goods l_bests l_kept l_enough l_known) := hD
          refine lv_dup2_11 hx hb dX2_countEnough_41 rfl rfl ?_
          obtain ⟨hin, hf⟩ := hf
          refine va_iald hx hb hK hP 12 0 rfl rfl hin dX2_countEnough_42 ?_
          refine lv_iconst (v := 1) hx hb dX2_countEnough_43 (by decide) ?_
          refine lv_iadd hx hb dX2_countEnough_44 ?_
          refine lv_topi (fun x45_4 ex45_4 => ?_)
          have hf := hf x45_4 ex45_4
          obtain ⟨hin, hf⟩ := hf
          refine va_iast hx hb hK hP hD hS 12 0 rfl rfl hin dX2_countEnough_45 (fun H locs hP hD hS => ?_)
          have hP : va_P (dC, dI) vwCl (wd_X2 cI cJ cZ cH aH aE aEd aEf aEs aS aSd aSf aSg aL aLb aLk aLe h_rate h_wrap e_days e_firsts e_seconds e_size s_days s_fars s_goods l_bests l_kept (upd l_enough r38_3.toNatClampNeg x45_4) l_known) H := hP
          have hD : va_D A (wd_X2 cI cJ cZ cH aH aE aEd aEf aEs aS aSd aSf aSg aL aLb aLk aLe h_rate h_wrap e_days e_firsts e_seconds e_size s_days s_fars s_goods l_bests l_kept (upd l_enough r38_3.toNatClampNeg x45_4) l_known) := hD
          exact J46 _ hK10 v1 v2 (upd l_enough r38_3.toNatClampNeg x45_4) hf _ _ _ hP hD hS (lv_sub hl [0, 1, 2] rfl)
  unfold wp_X2_countEnough at hf
  refine lv_aload_n hx hb dX2_countEnough_0 rfl (lv_at hl 0 rfl) ?_
  refine va_get (D := (dC, dI)) (ci := 2) (v := .ref aLe) (C := RX2) (T := TX2) (N := 5) hx hb hts inX2 hown hK hP 9 rfl rfl 3 (by decide) (hts _ kw254) (fun _ h9 => h9) rfl dX2_countEnough_1 ?_
  refine lv_iconst (v := 0) hx hb dX2_countEnough_4 (by decide) ?_
  refine mk_v (w2 := fun u : (Nat → Int32) => wd_X2 cI cJ cZ cH aH aE aEd aEf aEs aS aSd aSf aSg aL aLb aLk aLe h_rate h_wrap e_days e_firsts e_seconds e_size s_days s_fars s_goods l_bests l_kept u l_known) (wc := wd_AI cI cJ cZ cH 11 aLe l_enough) hP hD hS hA [12] [0, 1, 2, 3, 4, 5, 6, 7, 8, 9, 10, 11] [0, 1, 2, 3, 4, 5, 6, 7, 8, 9, 10, 11, 12] rfl rfl rfl rfl (by decide) rfl (fun _ => rfl) (fun hPc hDc => va_runS (As := [.ref aLe, .int (0 : Int32)]) (rest := []) ⟨hx, hb, hml, hown, hts⟩ (c_J7_fill_53178 l dC dI cI cJ cZ cH aLe s.heap.size 11 l_enough (0 : Int32) hf) (va_cwS 2 hts (gS kw652 kw291 kw10 kw292) rfl rfl rfl (by decide +kernel) ⟨Nat.le_of_ble_eq_true rfl, Nat.le_of_ble_eq_true rfl⟩) ⟨PX_blind, PX_pre hPc hDc hK hN⟩ rfl rfl hl.1 rfl (lv_room (Nat.le_of_ble_eq_true rfl)) dX2_countEnough_5 ⟨Nat.le_of_ble_eq_true rfl, Nat.le_of_ble_eq_true rfl⟩) (fun f_row_5_5 H locs hf hP hD hS => ?_)
  try dsimp only at hf
  have hP : va_P (dC, dI) vwCl (wd_X2 cI cJ cZ cH aH aE aEd aEf aEs aS aSd aSf aSg aL aLb aLk aLe h_rate h_wrap e_days e_firsts e_seconds e_size s_days s_fars s_goods l_bests l_kept f_row_5_5 l_known) H := hP
  have hD : va_D A (wd_X2 cI cJ cZ cH aH aE aEd aEf aEs aS aSd aSf aSg aL aLb aLk aLe h_rate h_wrap e_days e_firsts e_seconds e_size s_days s_fars s_goods l_bests l_kept f_row_5_5 l_known) := hD
  refine lv_iconst (v := 0) hx hb dX2_countEnough_8 (by decide) ?_
  refine lv_istore_n (lv' := [(2, .int (0 : Int32)), (0, .ref aL), (1, .int p1)]) hx hb dX2_countEnough_9 rfl hl (by decide) rfl (fun ls hl => ?_)
  obtain ⟨n9, hf⟩ := hf
  exact L10  n9 p1 (0 : Int32) f_row_5_5 hf _ _ _ hP hD hS (lv_sub hl [1, 2, 0] rfl)
abbrev rm_X2_power : Room := { frames := 0, cells := 0, slots := 0, locals := 0 }
set_option maxHeartbeats 4000000 in
set_option maxRecDepth 100000 in
theorem c_X2_power (l : Launch) (dC : Nat → ClassId) (dI : Nat → Nat → Nat) (cI cJ cZ cH : ClassId) (sz : Nat) (p0 : Int32) (p1 : Int32) {Q : Int64 → Prop} (hf : wp_X2_power p0 p1 Q) : Met l yX2_power (.code yX2_power cX2_power 5 (some .long) :: GW) rm_X2_power (va_Pc [.int p0, .int p1] (PX (dC, dI) cI cJ cZ cH (wd_E cI cJ cZ cH ) sz)) (va_Ql (fun (r : Int64) (_u : Unit) => Q r ) (fun u t => BX (dC, dI) (wd_E cI cJ cZ cH ) (va_A (wd_E cI cJ cZ cH ) sz) t) (va_A (wd_E cI cJ cZ cH ) sz)) 0 0 (va_A (wd_E cI cJ cZ cH ) sz) := by
  refine Met_l (w1 := fun u : Unit => wd_E cI cJ cZ cH ) (by decide) (Nat.le_of_ble_eq_true rfl) ?_
  intro p e s m below meth c A Z ls hsz hx hb hml hown hts hmn hA hP hK hN hD hS hl hRet
  have hown : s.vm.findClass "MilesKept$Losses" = some m.cls := hown
  have hl : lv_has ls 5 [(0, .int p0), (1, .int p1)] := hl
  have L5 : ∀ (n : Nat) (v0 : Int32) (v1 : Int32) (v2 : Int64) (v4 : Int32), wp_X2_power_h5 Q  n v0 v1 v2 v4 → ∀ (H : Heap) (locs : List Loc) (ls : Array Slot), va_P (dC, dI) vwCl (wd_E cI cJ cZ cH ) H → va_D A (wd_E cI cJ cZ cH ) → va_S A s.heap H locs → lv_has ls 5 [(0, .int v0), (1, .int v1), (2, .long v2), (4, .int v4)] → W p l e rm_X2_power s m ([Value.int p0, Value.int p1] : List Value).toArray below meth c H locs 0 0 Z (F0 m 5 ls []) := by
    intro n
    induction n with
    | zero =>
      intro v0 v1 v2 v4 hf
      exact False.elim hf
    | succ n hK5 =>
      intro v0 v1 v2 v4 hf H locs ls hP hD hS hl
      simp only [wp_X2_power_h5] at hf
      refine lv_iload hx hb dX2_power_5 (lv_at hl 3 rfl) ?_
      refine lv_iload_n hx hb dX2_power_7 rfl (lv_at hl 1 rfl) ?_
      refine lv_icmp_ge (tgt := 22) hx hb dX2_power_8 (by decide) (fun c8 => ?_) (fun c8 => ?_)
      · have hf := hf.1 c8
        refine lv_lload_n hx hb dX2_power_22 rfl (lv_at hl 2 rfl) ?_
        exact hRet _ _ _ _ v2 () hf hP hD hS dX2_power_23
      · have hf := hf.2 c8
        refine lv_lload_n hx hb dX2_power_11 rfl (lv_at hl 2 rfl) ?_
        refine lv_iload_n hx hb dX2_power_12 rfl (lv_at hl 0 rfl) ?_
        refine lv_i2l hx hb dX2_power_13 rfl ?_
        refine lv_lmul hx hb dX2_power_14 ?_
        refine lv_topl (fun x15_1 ex15_1 => ?_)
        have hf := hf x15_1 ex15_1
        refine lv_lstore_n (lv' := [(2, .long x15_1), (0, .int v0), (1, .int v1), (4, .int v4)]) hx hb dX2_power_15 rfl hl (by decide) rfl (fun ls hl => ?_)
        obtain ⟨x16_2, ex16_2⟩ : ∃ y : Int32, y = v4 + 1 := ⟨_, rfl⟩
        have hf := hf x16_2 ex16_2
        refine lv_iinc (v := x16_2) (lv' := [(4, .int x16_2), (2, .long x15_1), (0, .int v0), (1, .int v1)]) hx hb dX2_power_16 hl (k := 3) rfl (by rw [ex16_2]; rfl) (by decide) rfl (fun ls hl => ?_)
        refine lv_goto (tgt := 5) hx hb dX2_power_19 (by decide) ?_
        exact hK5 v0 v1 x15_1 x16_2 hf _ _ _ hP hD hS (lv_sub hl [2, 3, 1, 0] rfl)
  unfold wp_X2_power at hf
  refine lv_lconst (v := 1) hx hb dX2_power_0 (by decide) ?_
  refine lv_lstore_n (lv' := [(2, .long (1 : Int64)), (0, .int p0), (1, .int p1)]) hx hb dX2_power_1 rfl hl (by decide) rfl (fun ls hl => ?_)
  refine lv_iconst (v := 0) hx hb dX2_power_2 (by decide) ?_
  refine lv_istore (lv' := [(4, .int (0 : Int32)), (2, .long (1 : Int64)), (0, .int p0), (1, .int p1)]) hx hb dX2_power_3 hl (by decide) rfl (fun ls hl => ?_)
  obtain ⟨n9, hf⟩ := hf
  exact L5  n9 p0 p1 (1 : Int64) (0 : Int32) hf _ _ _ hP hD hS (lv_sub hl [2, 3, 1, 0] rfl)
abbrev rm_X2_weightOf : Room := { frames := 5, cells := 0, slots := 0, locals := 120 }
set_option maxHeartbeats 4000000 in
set_option maxRecDepth 100000 in
theorem c_X2_weightOf (l : Launch) (dC : Nat → ClassId) (dI : Nat → Nat → Nat) (cI cJ cZ cH : ClassId) (aH : Nat) (aE : Nat) (aEd : Nat) (aEf : Nat) (aEs : Nat) (aS : Nat) (aSd : Nat) (aSf : Nat) (aSg : Nat) (aL : Nat) (aLb : Nat) (aLk : Nat) (aLe : Nat) (sz : Nat) (h_rate : Int32) (h_wrap : Int32) (e_days : Nat → Int32) (e_firsts : Nat → Int32) (e_seconds : Nat → Int32) (e_size : Int32) (s_days : Nat → Int32) (s_fars : Nat → Int32) (s_goods : Nat → Int32) (l_bests : Nat → Int32) (l_kept : Nat → Int32) (l_enough : Nat → Int32) (l_known : Int32) (p1 : Int32) (p2 : Int32) {Q : Int64 → (Nat → Int32) → (Nat → Int32) → (Nat → Int32) → Int32 → Prop} (hf : wp_X2_weightOf h_rate e_size s_days s_fars s_goods l_bests l_kept l_enough l_known p1 p2 Q) : Met l yX2_weightOf (.code yX2_weightOf cX2_weightOf 7 (some .long) :: GW) rm_X2_weightOf (va_Pc [.ref aL, .int p1, .int p2] (PX (dC, dI) cI cJ cZ cH (wd_X2 cI cJ cZ cH aH aE aEd aEf aEs aS aSd aSf aSg aL aLb aLk aLe h_rate h_wrap e_days e_firsts e_seconds e_size s_days s_fars s_goods l_bests l_kept l_enough l_known) sz)) (va_Ql (fun (r : Int64) (u : (Nat → Int32) × (Nat → Int32) × (Nat → Int32) × Int32) => Q r u.1 u.2.1 u.2.2.1 u.2.2.2) (fun u t => BX (dC, dI) (wd_X2 cI cJ cZ cH aH aE aEd aEf aEs aS aSd aSf aSg aL aLb aLk aLe h_rate h_wrap e_days e_firsts e_seconds e_size s_days s_fars s_goods u.1 u.2.1 u.2.2.1 u.2.2.2) (va_A (wd_X2 cI cJ cZ cH aH aE aEd aEf aEs aS aSd aSf aSg aL aLb aLk aLe h_rate h_wrap e_days e_firsts e_seconds e_size s_days s_fars s_goods l_bests l_kept l_enough l_known) sz) t) (va_A (wd_X2 cI cJ cZ cH aH aE aEd aEf aEs aS aSd aSf aSg aL aLb aLk aLe h_rate h_wrap e_days e_firsts e_seconds e_size s_days s_fars s_goods l_bests l_kept l_enough l_known) sz)) 0 0 (va_A (wd_X2 cI cJ cZ cH aH aE aEd aEf aEs aS aSd aSf aSg aL aLb aLk aLe h_rate h_wrap e_days e_firsts e_seconds e_size s_days s_fars s_goods l_bests l_kept l_enough l_known) sz) := by
  refine Met_l (w1 := fun u : (Nat → Int32) × (Nat → Int32) × (Nat → Int32) × Int32 => wd_X2 cI cJ cZ cH aH aE aEd aEf aEs aS aSd aSf aSg aL aLb aLk aLe h_rate h_wrap e_days e_firsts e_seconds e_size s_days s_fars s_goods u.1 u.2.1 u.2.2.1 u.2.2.2) (by decide) (Nat.le_of_ble_eq_true rfl) ?_
  intro p e s m below meth c A Z ls hsz hx hb hml hown hts hmn hA hP hK hN hD hS hl hRet
  have hown : s.vm.findClass "MilesKept$Losses" = some m.cls := hown
  have hl : lv_has ls 7 [(0, .ref aL), (1, .int p1), (2, .int p2)] := hl
  have L30 : ∀ (n : Nat) (v1 : Int32) (v3 : Int32) (v4 : Int64) (v6 : Int32) (l_bests : Nat → Int32) (l_kept : Nat → Int32) (l_enough : Nat → Int32) (l_known : Int32), wp_X2_weightOf_h30 h_rate e_size s_days s_fars s_goods Q  n v1 v3 v4 v6 l_bests l_kept l_enough l_known → ∀ (H : Heap) (locs : List Loc) (ls : Array Slot), va_P (dC, dI) vwCl (wd_X2 cI cJ cZ cH aH aE aEd aEf aEs aS aSd aSf aSg aL aLb aLk aLe h_rate h_wrap e_days e_firsts e_seconds e_size s_days s_fars s_goods l_bests l_kept l_enough l_known) H → va_D A (wd_X2 cI cJ cZ cH aH aE aEd aEf aEs aS aSd aSf aSg aL aLb aLk aLe h_rate h_wrap e_days e_firsts e_seconds e_size s_days s_fars s_goods l_bests l_kept l_enough l_known) → va_S A s.heap H locs → lv_has ls 7 [(0, .ref aL), (1, .int v1), (3, .int v3), (4, .long v4), (6, .int v6)] → W p l e rm_X2_weightOf s m ([Value.ref aL, Value.int p1, Value.int p2] : List Value).toArray below meth c H locs 0 0 Z (F0 m 30 ls []) := by
    intro n
    induction n with
    | zero =>
      intro v1 v3 v4 v6 l_bests l_kept l_enough l_known hf
      exact False.elim hf
    | succ n hK30 =>
      intro v1 v3 v4 v6 l_bests l_kept l_enough l_known hf H locs ls hP hD hS hl
      simp only [wp_X2_weightOf_h30] at hf
      refine lv_iload hx hb dX2_weightOf_30 (lv_at hl 4 rfl) ?_
      refine lv_iload_n hx hb dX2_weightOf_32 rfl (lv_at hl 2 rfl) ?_
      refine lv_icmp_gt (tgt := 74) hx hb dX2_weightOf_33 (by decide) (fun c33 => ?_) (fun c33 => ?_)
      · have hf := hf.1 c33
        refine lv_lload hx hb dX2_weightOf_74 (lv_at hl 3 rfl) ?_
        exact hRet _ _ _ _ v4 (l_bests, l_kept, l_enough, l_known) hf hP hD hS dX2_weightOf_76
      · have hf := hf.2 c33
        refine lv_lload hx hb dX2_weightOf_36 (lv_at hl 3 rfl) ?_
        refine lv_aload_n hx hb dX2_weightOf_38 rfl (lv_at hl 0 rfl) ?_
        refine va_get (D := (dC, dI)) (ci := 2) (v := .ref aLe) (C := RX2) (T := TX2) (N := 5) hx hb hts inX2 hown hK hP 9 rfl rfl 3 (by decide) (hts _ kw254) (fun _ h9 => h9) rfl dX2_weightOf_39 ?_
        refine lv_iload hx hb dX2_weightOf_42 (lv_at hl 4 rfl) ?_
        obtain ⟨hin, hf⟩ := hf
        refine va_iald hx hb hK hP 12 0 rfl rfl hin dX2_weightOf_44 ?_
        refine lv_i2l hx hb dX2_weightOf_45 rfl ?_
        refine lv_bipush (v := 10) hx hb dX2_weightOf_46 (by decide) ?_
        refine lv_iload_n hx hb dX2_weightOf_48 rfl (lv_at hl 1 rfl) ?_
        refine lv_isub hx hb dX2_weightOf_49 ?_
        refine lv_iload hx hb dX2_weightOf_50 (lv_at hl 4 rfl) ?_
        refine mk_l (w2 := fun u : Unit => wd_X2 cI cJ cZ cH aH aE aEd aEf aEs aS aSd aSf aSg aL aLb aLk aLe h_rate h_wrap e_days e_firsts e_seconds e_size s_days s_fars s_goods l_bests l_kept l_enough l_known) (wc := wd_E cI cJ cZ cH ) hP hD hS hA [] [0, 1, 2, 3, 4, 5, 6, 7, 8, 9, 10, 11, 12] [0, 1, 2, 3, 4, 5, 6, 7, 8, 9, 10, 11, 12] rfl rfl rfl rfl (by decide) rfl (fun _ => rfl) (fun hPc hDc => va_runS (As := [.int ((10 : Int32) - v1), .int v6]) (rest := [.long ((l_enough v6.toNatClampNeg).toInt64), .long v4]) ⟨hx, hb, hml, hown, hts⟩ (c_X2_power l dC dI cI cJ cZ cH H.size ((10 : Int32) - v1) v6 hf) (va_cwS 2 hts (gS kw687 kw688 kw9 kw689) rfl rfl rfl (by decide +kernel) ⟨Nat.le_of_ble_eq_true rfl, Nat.le_of_ble_eq_true rfl⟩) ⟨PX_blind, PX_pre hPc hDc hK hN⟩ rfl rfl hl.1 rfl (lv_room (Nat.le_of_ble_eq_true rfl)) dX2_weightOf_52 ⟨Nat.le_of_ble_eq_true rfl, Nat.le_of_ble_eq_true rfl⟩) (fun r52_1 u H locs hf hP hD hS => ?_)
        try dsimp only at hf
        have hP : va_P (dC, dI) vwCl (wd_X2 cI cJ cZ cH aH aE aEd aEf aEs aS aSd aSf aSg aL aLb aLk aLe h_rate h_wrap e_days e_firsts e_seconds e_size s_days s_fars s_goods l_bests l_kept l_enough l_known) H := hP
        have hD : va_D A (wd_X2 cI cJ cZ cH aH aE aEd aEf aEs aS aSd aSf aSg aL aLb aLk aLe h_rate h_wrap e_days e_firsts e_seconds e_size s_days s_fars s_goods l_bests l_kept l_enough l_known) := hD
        refine lv_lmul hx hb dX2_weightOf_55 ?_
        refine lv_iload_n hx hb dX2_weightOf_56 rfl (lv_at hl 1 rfl) ?_
        refine lv_iload_n hx hb dX2_weightOf_57 rfl (lv_at hl 2 rfl) ?_
        refine lv_iload hx hb dX2_weightOf_58 (lv_at hl 4 rfl) ?_
        refine lv_isub hx hb dX2_weightOf_60 ?_
        refine mk_l (w2 := fun u : Unit => wd_X2 cI cJ cZ cH aH aE aEd aEf aEs aS aSd aSf aSg aL aLb aLk aLe h_rate h_wrap e_days e_firsts e_seconds e_size s_days s_fars s_goods l_bests l_kept l_enough l_known) (wc := wd_E cI cJ cZ cH ) hP hD hS hA [] [0, 1, 2, 3, 4, 5, 6, 7, 8, 9, 10, 11, 12] [0, 1, 2, 3, 4, 5, 6, 7, 8, 9, 10, 11, 12] rfl rfl rfl rfl (by decide) rfl (fun _ => rfl) (fun hPc hDc => va_runS (As := [.int v1, .int (v3 - v6)]) (rest := [.long ((l_enough v6.toNatClampNeg).toInt64 * r52_1), .long v4]) ⟨hx, hb, hml, hown, hts⟩ (c_X2_power l dC dI cI cJ cZ cH H.size v1 (v3 - v6) hf) (va_cwS 2 hts (gS kw687 kw688 kw9 kw689) rfl rfl rfl (by decide +kernel) ⟨Nat.le_of_ble_eq_true rfl, Nat.le_of_ble_eq_true rfl⟩) ⟨PX_blind, PX_pre hPc hDc hK hN⟩ rfl rfl hl.1 rfl (lv_room (Nat.le_of_ble_eq_true rfl)) dX2_weightOf_61 ⟨Nat.le_of_ble_eq_true rfl, Nat.le_of_ble_eq_true rfl⟩) (fun r61_2 u H locs hf hP hD hS => ?_)
        try dsimp only at hf
        have hP : va_P (dC, dI) vwCl (wd_X2 cI cJ cZ cH aH aE aEd aEf aEs aS aSd aSf aSg aL aLb aLk aLe h_rate h_wrap e_days e_firsts e_seconds e_size s_days s_fars s_goods l_bests l_kept l_enough l_known) H := hP
        have hD : va_D A (wd_X2 cI cJ cZ cH aH aE aEd aEf aEs aS aSd aSf aSg aL aLb aLk aLe h_rate h_wrap e_days e_firsts e_seconds e_size s_days s_fars s_goods l_bests l_kept l_enough l_known) := hD
        refine lv_lmul hx hb dX2_weightOf_64 ?_
        refine lv_ladd hx hb dX2_weightOf_65 ?_
        refine lv_topl (fun x66_3 ex66_3 => ?_)
        have hf := hf x66_3 ex66_3
        refine lv_lstore (lv' := [(4, .long x66_3), (0, .ref aL), (1, .int v1), (3, .int v3), (6, .int v6)]) hx hb dX2_weightOf_66 hl (by decide) rfl (fun ls hl => ?_)
        obtain ⟨x68_4, ex68_4⟩ : ∃ y : Int32, y = v6 + 1 := ⟨_, rfl⟩
        have hf := hf x68_4 ex68_4
        refine lv_iinc (v := x68_4) (lv' := [(6, .int x68_4), (4, .long x66_3), (0, .ref aL), (1, .int v1), (3, .int v3)]) hx hb dX2_weightOf_68 hl (k := 4) rfl (by rw [ex68_4]; rfl) (by decide) rfl (fun ls hl => ?_)
        refine lv_goto (tgt := 30) hx hb dX2_weightOf_71 (by decide) ?_
        exact hK30 v1 v3 x66_3 x68_4 l_bests l_kept l_enough l_known hf _ _ _ hP hD hS (lv_sub hl [2, 3, 4, 1, 0] rfl)
  have J11 : ∀ (v1 : Int32) (v2 : Int32) (l_bests : Nat → Int32) (l_kept : Nat → Int32) (l_enough : Nat → Int32) (l_known : Int32), wp_X2_weightOf_b11 h_rate e_size s_days s_fars s_goods Q  v1 v2 l_bests l_kept l_enough l_known → ∀ (H : Heap) (locs : List Loc) (ls : Array Slot), va_P (dC, dI) vwCl (wd_X2 cI cJ cZ cH aH aE aEd aEf aEs aS aSd aSf aSg aL aLb aLk aLe h_rate h_wrap e_days e_firsts e_seconds e_size s_days s_fars s_goods l_bests l_kept l_enough l_known) H → va_D A (wd_X2 cI cJ cZ cH aH aE aEd aEf aEs aS aSd aSf aSg aL aLb aLk aLe h_rate h_wrap e_days e_firsts e_seconds e_size s_days s_fars s_goods l_bests l_kept l_enough l_known) → va_S A s.heap H locs → lv_has ls 7 [(0, .ref aL), (1, .int v1), (2, .int v2)] → W p l e rm_X2_weightOf s m ([Value.ref aL, Value.int p1, Value.int p2] : List Value).toArray below meth c H locs 0 0 Z (F0 m 11 ls []) := by
    intro  v1 v2 l_bests l_kept l_enough l_known hf H locs ls hP hD hS hl
    unfold wp_X2_weightOf_b11 at hf
    refine lv_aload_n hx hb dX2_weightOf_11 rfl (lv_at hl 0 rfl) ?_
    refine lv_iload_n hx hb dX2_weightOf_12 rfl (lv_at hl 2 rfl) ?_
    refine mk_v (w2 := fun u : (Nat → Int32) => wd_X2 cI cJ cZ cH aH aE aEd aEf aEs aS aSd aSf aSg aL aLb aLk aLe h_rate h_wrap e_days e_firsts e_seconds e_size s_days s_fars s_goods l_bests l_kept u l_known) (wc := wd_X2 cI cJ cZ cH aH aE aEd aEf aEs aS aSd aSf aSg aL aLb aLk aLe h_rate h_wrap e_days e_firsts e_seconds e_size s_days s_fars s_goods l_bests l_kept l_enough l_known) hP hD hS hA [0, 1, 2, 3, 4, 5, 6, 7, 8, 9, 10, 11, 12] [] [0, 1, 2, 3, 4, 5, 6, 7, 8, 9, 10, 11, 12] rfl rfl rfl rfl (by decide) rfl (fun _ => rfl) (fun hPc hDc => va_runV (As := [.int v2]) (rest := []) ⟨hx, hb, hml, hown, hts⟩ (c_X2_countEnough l dC dI cI cJ cZ cH aH aE aEd aEf aEs aS aSd aSf aSg aL aLb aLk aLe H.size h_rate h_wrap e_days e_firsts e_seconds e_size s_days s_fars s_goods l_bests l_kept l_enough l_known v2 hf) (cwV 1 hts (gV kw677 kw679 kp34 kw9 kw680) rfl rfl rfl (by decide +kernel) ⟨Nat.le_of_ble_eq_true rfl, Nat.le_of_ble_eq_true rfl⟩) ⟨PX_blind, va_recv hK hPc (ci := 2) (q0 := 9) rfl rfl, PX_pre hPc hDc hK hN⟩ rfl rfl hl.1 rfl (lv_room (Nat.le_of_ble_eq_true rfl)) dX2_weightOf_13 ⟨Nat.le_of_ble_eq_true rfl, Nat.le_of_ble_eq_true rfl⟩) (fun l_enough_13_5 H locs hf hP hD hS => ?_)
    try dsimp only at hf
    have hP : va_P (dC, dI) vwCl (wd_X2 cI cJ cZ cH aH aE aEd aEf aEs aS aSd aSf aSg aL aLb aLk aLe h_rate h_wrap e_days e_firsts e_seconds e_size s_days s_fars s_goods l_bests l_kept l_enough_13_5 l_known) H := hP
    have hD : va_D A (wd_X2 cI cJ cZ cH aH aE aEd aEf aEs aS aSd aSf aSg aL aLb aLk aLe h_rate h_wrap e_days e_firsts e_seconds e_size s_days s_fars s_goods l_bests l_kept l_enough_13_5 l_known) := hD
    refine lv_aload_n hx hb dX2_weightOf_16 rfl (lv_at hl 0 rfl) ?_
    refine va_get (D := (dC, dI)) (ci := 2) (v := .ref aS) (C := RX2) (T := TX2) (N := 5) hx hb hts inX2 hown hK hP 9 rfl rfl 0 (by decide) (hts _ kw251) (fun _ h9 => h9) rfl dX2_weightOf_17 ?_
    refine mk_i (w2 := fun u : Unit => wd_X2 cI cJ cZ cH aH aE aEd aEf aEs aS aSd aSf aSg aL aLb aLk aLe h_rate h_wrap e_days e_firsts e_seconds e_size s_days s_fars s_goods l_bests l_kept l_enough_13_5 l_known) (wc := wd_X6 cI cJ cZ cH aH aE aEd aEf aEs aS aSd aSf aSg h_rate h_wrap e_days e_firsts e_seconds e_size s_days s_fars s_goods) hP hD hS hA [0, 1, 2, 3, 4, 5, 6, 7, 8] [9, 10, 11, 12] [4, 5, 6, 7, 8, 9, 10, 11, 12, 0, 1, 2, 3] rfl rfl rfl rfl (by decide) rfl (fun _ => rfl) (fun hPc hDc => va_runV (As := []) (rest := []) ⟨hx, hb, hml, hown, hts⟩ (c_X6_size l dC dI cI cJ cZ cH aH aE aEd aEf aEs aS aSd aSf aSg H.size h_rate h_wrap e_days e_firsts e_seconds e_size s_days s_fars s_goods hf) (cwV 0 hts (gV kw653 kw298 kw299 kw7 kw300) rfl rfl rfl (by decide +kernel) ⟨Nat.le_of_ble_eq_true rfl, Nat.le_of_ble_eq_true rfl⟩) ⟨PX_blind, va_recv hK hPc (ci := 6) (q0 := 5) rfl rfl, PX_pre hPc hDc hK hN⟩ rfl rfl hl.1 rfl (lv_room (Nat.le_of_ble_eq_true rfl)) dX2_weightOf_20 ⟨Nat.le_of_ble_eq_true rfl, Nat.le_of_ble_eq_true rfl⟩) (fun r20_6 u H locs hf hP hD hS => ?_)
    try dsimp only at hf
    have hP : va_P (dC, dI) vwCl (wd_X2 cI cJ cZ cH aH aE aEd aEf aEs aS aSd aSf aSg aL aLb aLk aLe h_rate h_wrap e_days e_firsts e_seconds e_size s_days s_fars s_goods l_bests l_kept l_enough_13_5 l_known) H := hP
    have hD : va_D A (wd_X2 cI cJ cZ cH aH aE aEd aEf aEs aS aSd aSf aSg aL aLb aLk aLe h_rate h_wrap e_days e_firsts e_seconds e_size s_days s_fars s_goods l_bests l_kept l_enough_13_5 l_known) := hD
    refine lv_istore_n (lv' := [(3, .int r20_6), (0, .ref aL), (1, .int v1), (2, .int v2)]) hx hb dX2_weightOf_23 rfl hl (by decide) rfl (fun ls hl => ?_)
    refine lv_lconst (v := 0) hx hb dX2_weightOf_24 (by decide) ?_
    refine lv_lstore (lv' := [(4, .long (0 : Int64)), (3, .int r20_6), (0, .ref aL), (1, .int v1), (2, .int v2)]) hx hb dX2_weightOf_25 hl (by decide) rfl (fun ls hl => ?_)
    refine lv_iconst (v := 0) hx hb dX2_weightOf_27 (by decide) ?_
    refine lv_istore (lv' := [(6, .int (0 : Int32)), (4, .long (0 : Int64)), (3, .int r20_6), (0, .ref aL), (1, .int v1), (2, .int v2)]) hx hb dX2_weightOf_28 hl (by decide) rfl (fun ls hl => ?_)
    obtain ⟨n9, hf⟩ := hf
    exact L30  n9 v1 r20_6 (0 : Int64) (0 : Int32) l_bests l_kept l_enough_13_5 l_known hf _ _ _ hP hD hS (lv_sub hl [3, 4, 2, 1, 0] rfl)
  unfold wp_X2_weightOf at hf
  refine lv_aload_n hx hb dX2_weightOf_0 rfl (lv_at hl 0 rfl) ?_
  refine va_get (D := (dC, dI)) (ci := 2) (v := .int l_known) (C := RX2) (T := TX2) (N := 5) hx hb hts inX2 hown hK hP 9 rfl rfl 4 (by decide) (hts _ kw255) (fun _ h9 => h9) rfl dX2_weightOf_1 ?_
  refine lv_if_ne (tgt := 11) hx hb dX2_weightOf_4 (by decide) (fun c4 => ?_) (fun c4 => ?_)
  · have hf := hf.1 c4
    exact J11  p1 p2 l_bests l_kept l_enough l_known hf _ _ _ hP hD hS (lv_sub hl [0, 1, 2] rfl)
  · have hf := hf.2 c4
    refine lv_aload_n hx hb dX2_weightOf_7 rfl (lv_at hl 0 rfl) ?_
    refine mk_v (w2 := fun u : (Nat → Int32) × (Nat → Int32) × Int32 => wd_X2 cI cJ cZ cH aH aE aEd aEf aEs aS aSd aSf aSg aL aLb aLk aLe h_rate h_wrap e_days e_firsts e_seconds e_size s_days s_fars s_goods u.1 u.2.1 l_enough u.2.2) (wc := wd_X2 cI cJ cZ cH aH aE aEd aEf aEs aS aSd aSf aSg aL aLb aLk aLe h_rate h_wrap e_days e_firsts e_seconds e_size s_days s_fars s_goods l_bests l_kept l_enough l_known) hP hD hS hA [0, 1, 2, 3, 4, 5, 6, 7, 8, 9, 10, 11, 12] [] [0, 1, 2, 3, 4, 5, 6, 7, 8, 9, 10, 11, 12] rfl rfl rfl rfl (by decide) rfl (fun _ => rfl) (fun hPc hDc => va_runV (As := []) (rest := []) ⟨hx, hb, hml, hown, hts⟩ (c_X2_findBests l dC dI cI cJ cZ cH aH aE aEd aEf aEs aS aSd aSf aSg aL aLb aLk aLe s.heap.size h_rate h_wrap e_days e_firsts e_seconds e_size s_days s_fars s_goods l_bests l_kept l_enough l_known hf) (cwV 0 hts (gV kw648 kw650 kp29 kw9 kw651) rfl rfl rfl (by decide +kernel) ⟨Nat.le_of_ble_eq_true rfl, Nat.le_of_ble_eq_true rfl⟩) ⟨PX_blind, va_recv hK hPc (ci := 2) (q0 := 9) rfl rfl, PX_pre hPc hDc hK hN⟩ rfl rfl hl.1 rfl (lv_room (Nat.le_of_ble_eq_true rfl)) dX2_weightOf_8 ⟨Nat.le_of_ble_eq_true rfl, Nat.le_of_ble_eq_true rfl⟩) (fun u H locs hf hP hD hS => ?_)
    obtain ⟨l_bests_8_7, l_kept_8_8, l_known_8_9⟩ := u
    try dsimp only at hf
    have hP : va_P (dC, dI) vwCl (wd_X2 cI cJ cZ cH aH aE aEd aEf aEs aS aSd aSf aSg aL aLb aLk aLe h_rate h_wrap e_days e_firsts e_seconds e_size s_days s_fars s_goods l_bests_8_7 l_kept_8_8 l_enough l_known_8_9) H := hP
    have hD : va_D A (wd_X2 cI cJ cZ cH aH aE aEd aEf aEs aS aSd aSf aSg aL aLb aLk aLe h_rate h_wrap e_days e_firsts e_seconds e_size s_days s_fars s_goods l_bests_8_7 l_kept_8_8 l_enough l_known_8_9) := hD
    exact J11  p1 p2 l_bests_8_7 l_kept_8_8 l_enough l_known_8_9 hf _ _ _ hP hD hS (lv_sub hl [0, 1, 2] rfl)
