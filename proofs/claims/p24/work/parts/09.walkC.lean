theorem hX6_launch : yX6_launch.cls = RX6 ∧ yX6_launch.cls ≠ "java/lang/invoke/MethodHandle" ∧ yX6_launch.cls ≠ "java/lang/invoke/VarHandle" ∧ (parseMethodDescriptor yX6_launch.desc).map (fun d => d.parameters.length) = some 5 := by decide +kernel
theorem oX6_launch : Cond.instanceMethod yX6_launch ∈ zT ∧ Cond.selects RX6 yX6_launch yX6_launch ∈ zT ∧ Cond.initialized RX6 ∈ zT ∧ Cond.code yX6_launch cX6_launch 6 (some .int) ∈ zT := ⟨wv_X6_launch, we_X6_launch, wi_X6, wk_X6_launch⟩
set_option maxRecDepth 100000 in
set_option maxHeartbeats 4000000 in
theorem kX6_launch (l : Launch) {g : zGeo} {z : Nat} (hg : zAd g z) {M M' : zM} {v1 : Int32} {v2 : Int32} {v3 : Int32} {v4 : Int32} {v5 : Int32} {r : Int32} (hF : fX6_launch M v1 v2 v3 v4 v5 = some (r, M')) : Met l yX6_launch [.code yX6_launch cX6_launch 6 (some .int)] { frames := 5, cells := 0, slots := 0, locals := 124 } (zPc g M [.ref (g.1 0 0), .int v1, .int v2, .int v3, .int v4, .int v5]) (zQi g z r M') 0 0 (zS z) := by
  refine z_enter (cc := cX6_launch) (maxL := 6) (ret := (some .int)) (by decide) rfl (Nat.le_of_ble_eq_true rfl) ?_
  intro p e s m below meth c S hr hlk hK hR hS ls hl
  have S : CallFix p m c cX6_launch 6 s _ zT RX6 := S
  have hl : lv_has ls 6 [(0, .ref (g.1 0 0)), (1, .int v1), (2, .int v2), (3, .int v3), (4, .int v4), (5, .int v5)] := hl
  unfold fX6_launch at hF
  refine lv_iload_n S.1 S.2.1 dX6_launch_0 rfl (lv_at hl 1 rfl) ?_
  refine lv_iconst (v := 0) S.1 S.2.1 dX6_launch_1 (by decide) ?_
  refine lv_bipush (v := 63) S.1 S.2.1 dX6_launch_2 (by decide) ?_
  refine z_goi hS hF (fun _ _ ho => va_runS (n := 3) (As := [.int v1, .int 0, .int 63]) (rest := []) S (kX6_isWithin l hg ho) (va_cwS 3 S.2.2.2.2 (zgS wm_X6_57 oX6_isWithin) rfl rfl rfl hX6_isWithin.2 ⟨Nat.le_of_ble_eq_true rfl, Nat.le_of_ble_eq_true rfl⟩) ⟨zPc_blind, z_pre hK hR⟩ rfl rfl hl.1 rfl (lv_room (Nat.le_of_ble_eq_true rfl)) dX6_launch_4 ⟨Nat.zero_le _, Nat.zero_le _⟩) (fun r22 M21 H locs hR hS hF => ?_)
  refine lv_if_eq (tgt := 53) S.1 S.2.1 dX6_launch_7 (by decide) (fun hc23 => ?_) (fun hc23 => ?_)
  · replace hF := z_ct hF hc23
    refine lv_bipush (v := (-2)) S.1 S.2.1 dX6_launch_53 (by decide) ?_
    exact z_iret S hr hlk hR hS hF dX6_launch_55
  · replace hF := z_cf hF hc23
    refine lv_iload_n S.1 S.2.1 dX6_launch_10 rfl (lv_at hl 2 rfl) ?_
    refine lv_iconst (v := 0) S.1 S.2.1 dX6_launch_11 (by decide) ?_
    refine lv_bipush (v := 63) S.1 S.2.1 dX6_launch_12 (by decide) ?_
    refine z_goi hS hF (fun _ _ ho => va_runS (n := 3) (As := [.int v2, .int 0, .int 63]) (rest := []) S (kX6_isWithin l hg ho) (va_cwS 3 S.2.2.2.2 (zgS wm_X6_57 oX6_isWithin) rfl rfl rfl hX6_isWithin.2 ⟨Nat.le_of_ble_eq_true rfl, Nat.le_of_ble_eq_true rfl⟩) ⟨zPc_blind, z_pre hK hR⟩ rfl rfl hl.1 rfl (lv_room (Nat.le_of_ble_eq_true rfl)) dX6_launch_14 ⟨Nat.zero_le _, Nat.zero_le _⟩) (fun r25 M24 H locs hR hS hF => ?_)
    refine lv_if_eq (tgt := 53) S.1 S.2.1 dX6_launch_17 (by decide) (fun hc26 => ?_) (fun hc26 => ?_)
    · replace hF := z_ct hF hc26
      refine lv_bipush (v := (-2)) S.1 S.2.1 dX6_launch_53 (by decide) ?_
      exact z_iret S hr hlk hR hS hF dX6_launch_55
    · replace hF := z_cf hF hc26
      refine lv_iload_n S.1 S.2.1 dX6_launch_20 rfl (lv_at hl 3 rfl) ?_
      refine lv_iconst (v := 1) S.1 S.2.1 dX6_launch_21 (by decide) ?_
      refine lv_bipush (v := 47) S.1 S.2.1 dX6_launch_22 (by decide) ?_
      refine z_goi hS hF (fun _ _ ho => va_runS (n := 3) (As := [.int v3, .int 1, .int 47]) (rest := []) S (kX6_isWithin l hg ho) (va_cwS 3 S.2.2.2.2 (zgS wm_X6_57 oX6_isWithin) rfl rfl rfl hX6_isWithin.2 ⟨Nat.le_of_ble_eq_true rfl, Nat.le_of_ble_eq_true rfl⟩) ⟨zPc_blind, z_pre hK hR⟩ rfl rfl hl.1 rfl (lv_room (Nat.le_of_ble_eq_true rfl)) dX6_launch_24 ⟨Nat.zero_le _, Nat.zero_le _⟩) (fun r28 M27 H locs hR hS hF => ?_)
      refine lv_if_eq (tgt := 53) S.1 S.2.1 dX6_launch_27 (by decide) (fun hc29 => ?_) (fun hc29 => ?_)
      · replace hF := z_ct hF hc29
        refine lv_bipush (v := (-2)) S.1 S.2.1 dX6_launch_53 (by decide) ?_
        exact z_iret S hr hlk hR hS hF dX6_launch_55
      · replace hF := z_cf hF hc29
        refine lv_iload S.1 S.2.1 dX6_launch_30 (lv_at hl 4 rfl) ?_
        refine lv_iconst (v := 0) S.1 S.2.1 dX6_launch_32 (by decide) ?_
        refine lv_iconst (v := 5) S.1 S.2.1 dX6_launch_33 (by decide) ?_
        refine z_goi hS hF (fun _ _ ho => va_runS (n := 3) (As := [.int v4, .int 0, .int 5]) (rest := []) S (kX6_isWithin l hg ho) (va_cwS 3 S.2.2.2.2 (zgS wm_X6_57 oX6_isWithin) rfl rfl rfl hX6_isWithin.2 ⟨Nat.le_of_ble_eq_true rfl, Nat.le_of_ble_eq_true rfl⟩) ⟨zPc_blind, z_pre hK hR⟩ rfl rfl hl.1 rfl (lv_room (Nat.le_of_ble_eq_true rfl)) dX6_launch_34 ⟨Nat.zero_le _, Nat.zero_le _⟩) (fun r31 M30 H locs hR hS hF => ?_)
        refine lv_if_eq (tgt := 53) S.1 S.2.1 dX6_launch_37 (by decide) (fun hc32 => ?_) (fun hc32 => ?_)
        · replace hF := z_ct hF hc32
          refine lv_bipush (v := (-2)) S.1 S.2.1 dX6_launch_53 (by decide) ?_
          exact z_iret S hr hlk hR hS hF dX6_launch_55
        · replace hF := z_cf hF hc32
          refine lv_iload S.1 S.2.1 dX6_launch_40 (lv_at hl 5 rfl) ?_
          refine lv_bipush (v := 10) S.1 S.2.1 dX6_launch_42 (by decide) ?_
          refine lv_sipush (v := 200) S.1 S.2.1 dX6_launch_44 (by decide) ?_
          refine z_goi hS hF (fun _ _ ho => va_runS (n := 3) (As := [.int v5, .int 10, .int 200]) (rest := []) S (kX6_isWithin l hg ho) (va_cwS 3 S.2.2.2.2 (zgS wm_X6_57 oX6_isWithin) rfl rfl rfl hX6_isWithin.2 ⟨Nat.le_of_ble_eq_true rfl, Nat.le_of_ble_eq_true rfl⟩) ⟨zPc_blind, z_pre hK hR⟩ rfl rfl hl.1 rfl (lv_room (Nat.le_of_ble_eq_true rfl)) dX6_launch_47 ⟨Nat.zero_le _, Nat.zero_le _⟩) (fun r34 M33 H locs hR hS hF => ?_)
          refine lv_if_ne (tgt := 56) S.1 S.2.1 dX6_launch_50 (by decide) (fun hc35 => ?_) (fun hc35 => ?_)
          · replace hF := z_cf hF hc35
            refine lv_aload_n S.1 S.2.1 dX6_launch_56 rfl (lv_at hl 0 rfl) ?_
            refine z_get (k := 0) (i := 0) (f := 0) (v := .ref (g.1 1 0)) S hK hR (by decide) rfl rfl (by decide) wf_X6_10 rfl dX6_launch_57 ?_
            refine z_goi hS hF (fun _ _ ho => va_runV (C := RX2) (n := 0) (As := []) (rest := []) S (kX2_hasRoom l hg (by decide) ho) (cwV 0 S.2.2.2.2 (zgV wm_X6_61 oX2_hasRoom) rfl rfl rfl hX2_hasRoom ⟨Nat.le_of_ble_eq_true rfl, Nat.le_of_ble_eq_true rfl⟩) ⟨zPc_blind, z_recv hK hR (by decide) rfl rfl, z_pre hK hR⟩ rfl rfl hl.1 rfl (lv_room (Nat.le_of_ble_eq_true rfl)) dX6_launch_60 ⟨Nat.zero_le _, Nat.zero_le _⟩) (fun r37 M36 H locs hR hS hF => ?_)
            refine lv_if_ne (tgt := 69) S.1 S.2.1 dX6_launch_63 (by decide) (fun hc38 => ?_) (fun hc38 => ?_)
            · replace hF := z_cf hF hc38
              refine lv_aload_n S.1 S.2.1 dX6_launch_69 rfl (lv_at hl 0 rfl) ?_
              refine z_get (k := 0) (i := 0) (f := 4) (v := .ref (g.1 21 0)) S hK hR (by decide) rfl rfl (by decide) wf_X6_36 rfl dX6_launch_70 ?_
              refine lv_aload_n S.1 S.2.1 dX6_launch_73 rfl (lv_at hl 0 rfl) ?_
              refine z_get (k := 0) (i := 0) (f := 0) (v := .ref (g.1 1 0)) S hK hR (by decide) rfl rfl (by decide) wf_X6_10 rfl dX6_launch_74 ?_
              refine z_gov hS hF (fun _ _ ho => va_runV (C := RX0) (n := 1) (As := [.ref (g.1 1 0)]) (rest := []) S (kX0_record l hg (by decide) ho) (cwV 1 S.2.2.2.2 (zgV wm_X6_65 oX0_record) rfl rfl rfl hX0_record ⟨Nat.le_of_ble_eq_true rfl, Nat.le_of_ble_eq_true rfl⟩) ⟨zPc_blind, z_recv hK hR (by decide) rfl rfl, z_pre hK hR⟩ rfl rfl hl.1 rfl (lv_room (Nat.le_of_ble_eq_true rfl)) dX6_launch_77 ⟨Nat.zero_le _, Nat.zero_le _⟩) (fun M39 H locs hR hS hF => ?_)
              refine lv_aload_n S.1 S.2.1 dX6_launch_80 rfl (lv_at hl 0 rfl) ?_
              refine z_get (k := 0) (i := 0) (f := 0) (v := .ref (g.1 1 0)) S hK hR (by decide) rfl rfl (by decide) wf_X6_10 rfl dX6_launch_81 ?_
              refine lv_iload_n S.1 S.2.1 dX6_launch_84 rfl (lv_at hl 1 rfl) ?_
              refine lv_iload_n S.1 S.2.1 dX6_launch_85 rfl (lv_at hl 2 rfl) ?_
              refine lv_iload_n S.1 S.2.1 dX6_launch_86 rfl (lv_at hl 3 rfl) ?_
              refine lv_iload S.1 S.2.1 dX6_launch_87 (lv_at hl 4 rfl) ?_
              refine lv_iload S.1 S.2.1 dX6_launch_89 (lv_at hl 5 rfl) ?_
              refine z_goi hS hF (fun _ _ ho => va_runV (C := RX2) (n := 5) (As := [.int v1, .int v2, .int v3, .int v4, .int v5]) (rest := []) S (kX2_addKite l hg (by decide) ho) (cwV 5 S.2.2.2.2 (zgV wm_X6_69 oX2_addKite) rfl rfl rfl hX2_addKite ⟨Nat.le_of_ble_eq_true rfl, Nat.le_of_ble_eq_true rfl⟩) ⟨zPc_blind, z_recv hK hR (by decide) rfl rfl, z_pre hK hR⟩ rfl rfl hl.1 rfl (lv_room (Nat.le_of_ble_eq_true rfl)) dX6_launch_91 ⟨Nat.zero_le _, Nat.zero_le _⟩) (fun r41 M40 H locs hR hS hF => ?_)
              exact z_iret S hr hlk hR hS hF dX6_launch_94
            · replace hF := z_ct hF hc38
              refine lv_bipush (v := (-4)) S.1 S.2.1 dX6_launch_66 (by decide) ?_
              exact z_iret S hr hlk hR hS hF dX6_launch_68
          · replace hF := z_ct hF hc35
            refine lv_bipush (v := (-2)) S.1 S.2.1 dX6_launch_53 (by decide) ?_
            exact z_iret S hr hlk hR hS hF dX6_launch_55
theorem hX6_errorOfOrder : yX6_errorOfOrder.cls = RX6 ∧ yX6_errorOfOrder.cls ≠ "java/lang/invoke/MethodHandle" ∧ yX6_errorOfOrder.cls ≠ "java/lang/invoke/VarHandle" ∧ (parseMethodDescriptor yX6_errorOfOrder.desc).map (fun d => d.parameters.length) = some 3 := by decide +kernel
theorem oX6_errorOfOrder : Cond.instanceMethod yX6_errorOfOrder ∈ zT ∧ Cond.selects RX6 yX6_errorOfOrder yX6_errorOfOrder ∈ zT ∧ Cond.initialized RX6 ∈ zT ∧ Cond.code yX6_errorOfOrder cX6_errorOfOrder 4 (some .int) ∈ zT := ⟨wv_X6_errorOfOrder, we_X6_errorOfOrder, wi_X6, wk_X6_errorOfOrder⟩
set_option maxRecDepth 100000 in
set_option maxHeartbeats 4000000 in
theorem kX6_errorOfOrder (l : Launch) {g : zGeo} {z : Nat} (hg : zAd g z) {M M' : zM} {v1 : Int32} {v2 : Int32} {v3 : Int32} {r : Int32} (hF : fX6_errorOfOrder M v1 v2 v3 = some (r, M')) : Met l yX6_errorOfOrder [.code yX6_errorOfOrder cX6_errorOfOrder 4 (some .int)] { frames := 2, cells := 0, slots := 0, locals := 42 } (zPc g M [.ref (g.1 0 0), .int v1, .int v2, .int v3]) (zQi g z r M') 0 0 (zS z) := by
  refine z_enter (cc := cX6_errorOfOrder) (maxL := 4) (ret := (some .int)) (by decide) rfl (Nat.le_of_ble_eq_true rfl) ?_
  intro p e s m below meth c S hr hlk hK hR hS ls hl
  have S : CallFix p m c cX6_errorOfOrder 4 s _ zT RX6 := S
  have hl : lv_has ls 4 [(0, .ref (g.1 0 0)), (1, .int v1), (2, .int v2), (3, .int v3)] := hl
  unfold fX6_errorOfOrder at hF
  refine lv_aload_n S.1 S.2.1 dX6_errorOfOrder_0 rfl (lv_at hl 0 rfl) ?_
  refine z_get (k := 0) (i := 0) (f := 0) (v := .ref (g.1 1 0)) S hK hR (by decide) rfl rfl (by decide) wf_X6_10 rfl dX6_errorOfOrder_1 ?_
  refine lv_iload_n S.1 S.2.1 dX6_errorOfOrder_4 rfl (lv_at hl 1 rfl) ?_
  refine z_goi hS hF (fun _ _ ho => va_runV (C := RX2) (n := 1) (As := [.int v1]) (rest := []) S (kX2_has l hg (by decide) ho) (cwV 1 S.2.2.2.2 (zgV wm_X6_80 oX2_has) rfl rfl rfl hX2_has ⟨Nat.le_of_ble_eq_true rfl, Nat.le_of_ble_eq_true rfl⟩) ⟨zPc_blind, z_recv hK hR (by decide) rfl rfl, z_pre hK hR⟩ rfl rfl hl.1 rfl (lv_room (Nat.le_of_ble_eq_true rfl)) dX6_errorOfOrder_5 ⟨Nat.zero_le _, Nat.zero_le _⟩) (fun r22 M21 H locs hR hS hF => ?_)
  refine lv_if_ne (tgt := 13) S.1 S.2.1 dX6_errorOfOrder_8 (by decide) (fun hc23 => ?_) (fun hc23 => ?_)
  · replace hF := z_cf hF hc23
    refine lv_iload_n S.1 S.2.1 dX6_errorOfOrder_13 rfl (lv_at hl 2 rfl) ?_
    refine lv_bipush (v := (-3)) S.1 S.2.1 dX6_errorOfOrder_14 (by decide) ?_
    refine lv_iconst (v := 3) S.1 S.2.1 dX6_errorOfOrder_16 (by decide) ?_
    refine z_goi hS hF (fun _ _ ho => va_runS (n := 3) (As := [.int v2, .int (-3), .int 3]) (rest := []) S (kX6_isWithin l hg ho) (va_cwS 3 S.2.2.2.2 (zgS wm_X6_57 oX6_isWithin) rfl rfl rfl hX6_isWithin.2 ⟨Nat.le_of_ble_eq_true rfl, Nat.le_of_ble_eq_true rfl⟩) ⟨zPc_blind, z_pre hK hR⟩ rfl rfl hl.1 rfl (lv_room (Nat.le_of_ble_eq_true rfl)) dX6_errorOfOrder_17 ⟨Nat.zero_le _, Nat.zero_le _⟩) (fun r25 M24 H locs hR hS hF => ?_)
    refine lv_if_eq (tgt := 33) S.1 S.2.1 dX6_errorOfOrder_20 (by decide) (fun hc26 => ?_) (fun hc26 => ?_)
    · replace hF := z_ct hF hc26
      refine lv_bipush (v := (-2)) S.1 S.2.1 dX6_errorOfOrder_33 (by decide) ?_
      exact z_iret S hr hlk hR hS hF dX6_errorOfOrder_35
    · replace hF := z_cf hF hc26
      refine lv_iload_n S.1 S.2.1 dX6_errorOfOrder_23 rfl (lv_at hl 3 rfl) ?_
      refine lv_bipush (v := (-3)) S.1 S.2.1 dX6_errorOfOrder_24 (by decide) ?_
      refine lv_iconst (v := 3) S.1 S.2.1 dX6_errorOfOrder_26 (by decide) ?_
      refine z_goi hS hF (fun _ _ ho => va_runS (n := 3) (As := [.int v3, .int (-3), .int 3]) (rest := []) S (kX6_isWithin l hg ho) (va_cwS 3 S.2.2.2.2 (zgS wm_X6_57 oX6_isWithin) rfl rfl rfl hX6_isWithin.2 ⟨Nat.le_of_ble_eq_true rfl, Nat.le_of_ble_eq_true rfl⟩) ⟨zPc_blind, z_pre hK hR⟩ rfl rfl hl.1 rfl (lv_room (Nat.le_of_ble_eq_true rfl)) dX6_errorOfOrder_27 ⟨Nat.zero_le _, Nat.zero_le _⟩) (fun r28 M27 H locs hR hS hF => ?_)
      refine lv_if_ne (tgt := 36) S.1 S.2.1 dX6_errorOfOrder_30 (by decide) (fun hc29 => ?_) (fun hc29 => ?_)
      · replace hF := z_cf hF hc29
        refine lv_aload_n S.1 S.2.1 dX6_errorOfOrder_36 rfl (lv_at hl 0 rfl) ?_
        refine z_get (k := 0) (i := 0) (f := 0) (v := .ref (g.1 1 0)) S hK hR (by decide) rfl rfl (by decide) wf_X6_10 rfl dX6_errorOfOrder_37 ?_
        refine lv_iload_n S.1 S.2.1 dX6_errorOfOrder_40 rfl (lv_at hl 1 rfl) ?_
        refine z_goi hS hF (fun _ _ ho => va_runV (C := RX2) (n := 1) (As := [.int v1]) (rest := []) S (kX2_isFlying l hg (by decide) ho) (cwV 1 S.2.2.2.2 (zgV wm_X6_84 oX2_isFlying) rfl rfl rfl hX2_isFlying ⟨Nat.le_of_ble_eq_true rfl, Nat.le_of_ble_eq_true rfl⟩) ⟨zPc_blind, z_recv hK hR (by decide) rfl rfl, z_pre hK hR⟩ rfl rfl hl.1 rfl (lv_room (Nat.le_of_ble_eq_true rfl)) dX6_errorOfOrder_41 ⟨Nat.zero_le _, Nat.zero_le _⟩) (fun r31 M30 H locs hR hS hF => ?_)
        refine lv_if_eq (tgt := 51) S.1 S.2.1 dX6_errorOfOrder_44 (by decide) (fun hc32 => ?_) (fun hc32 => ?_)
        · replace hF := z_ct hF hc32
          refine lv_bipush (v := (-5)) S.1 S.2.1 dX6_errorOfOrder_51 (by decide) ?_
          exact z_iret S hr hlk hR hS hF dX6_errorOfOrder_53
        · replace hF := z_cf hF hc32
          refine lv_iconst (v := 0) S.1 S.2.1 dX6_errorOfOrder_47 (by decide) ?_
          refine lv_goto (tgt := 53) S.1 S.2.1 dX6_errorOfOrder_48 (by decide) ?_
          exact z_iret S hr hlk hR hS hF dX6_errorOfOrder_53
      · replace hF := z_ct hF hc29
        refine lv_bipush (v := (-2)) S.1 S.2.1 dX6_errorOfOrder_33 (by decide) ?_
        exact z_iret S hr hlk hR hS hF dX6_errorOfOrder_35
  · replace hF := z_ct hF hc23
    refine lv_iconst (v := (-1)) S.1 S.2.1 dX6_errorOfOrder_11 (by decide) ?_
    exact z_iret S hr hlk hR hS hF dX6_errorOfOrder_12
theorem hX6_order : yX6_order.cls = RX6 ∧ yX6_order.cls ≠ "java/lang/invoke/MethodHandle" ∧ yX6_order.cls ≠ "java/lang/invoke/VarHandle" ∧ (parseMethodDescriptor yX6_order.desc).map (fun d => d.parameters.length) = some 3 := by decide +kernel
theorem oX6_order : Cond.instanceMethod yX6_order ∈ zT ∧ Cond.selects RX6 yX6_order yX6_order ∈ zT ∧ Cond.initialized RX6 ∈ zT ∧ Cond.code yX6_order cX6_order 5 (some .int) ∈ zT := ⟨wv_X6_order, we_X6_order, wi_X6, wk_X6_order⟩
set_option maxRecDepth 100000 in
set_option maxHeartbeats 4000000 in
theorem kX6_order (l : Launch) {g : zGeo} {z : Nat} (hg : zAd g z) {M M' : zM} {v1 : Int32} {v2 : Int32} {v3 : Int32} {r : Int32} (hF : fX6_order M v1 v2 v3 = some (r, M')) : Met l yX6_order [.code yX6_order cX6_order 5 (some .int)] { frames := 5, cells := 0, slots := 0, locals := 124 } (zPc g M [.ref (g.1 0 0), .int v1, .int v2, .int v3]) (zQi g z r M') 0 0 (zS z) := by
  refine z_enter (cc := cX6_order) (maxL := 5) (ret := (some .int)) (by decide) rfl (Nat.le_of_ble_eq_true rfl) ?_
  intro p e s m below meth c S hr hlk hK hR hS ls hl
  have S : CallFix p m c cX6_order 5 s _ zT RX6 := S
  have hl : lv_has ls 5 [(0, .ref (g.1 0 0)), (1, .int v1), (2, .int v2), (3, .int v3)] := hl
  unfold fX6_order at hF
  refine lv_aload_n S.1 S.2.1 dX6_order_0 rfl (lv_at hl 0 rfl) ?_
  refine lv_iload_n S.1 S.2.1 dX6_order_1 rfl (lv_at hl 1 rfl) ?_
  refine lv_iload_n S.1 S.2.1 dX6_order_2 rfl (lv_at hl 2 rfl) ?_
  refine lv_iload_n S.1 S.2.1 dX6_order_3 rfl (lv_at hl 3 rfl) ?_
  refine z_goi hS hF (fun _ _ ho => va_runV (C := RX6) (n := 3) (As := [.int v1, .int v2, .int v3]) (rest := []) S (kX6_errorOfOrder l hg ho) (cwV 3 S.2.2.2.2 (zgV wm_X6_73 oX6_errorOfOrder) rfl rfl rfl hX6_errorOfOrder ⟨Nat.le_of_ble_eq_true rfl, Nat.le_of_ble_eq_true rfl⟩) ⟨zPc_blind, z_recv hK hR (by decide) rfl rfl, z_pre hK hR⟩ rfl rfl hl.1 rfl (lv_room (Nat.le_of_ble_eq_true rfl)) dX6_order_4 ⟨Nat.zero_le _, Nat.zero_le _⟩) (fun r22 M21 H locs hR hS hF => ?_)
  refine lv_istore (lv' := [(4, .int r22), (0, .ref (g.1 0 0)), (1, .int v1), (2, .int v2), (3, .int v3)]) S.1 S.2.1 dX6_order_7 hl (by decide) rfl (fun ls hl => ?_)
  refine lv_iload S.1 S.2.1 dX6_order_9 (lv_at hl 0 rfl) ?_
  refine lv_if_eq (tgt := 17) S.1 S.2.1 dX6_order_11 (by decide) (fun hc23 => ?_) (fun hc23 => ?_)
  · replace hF := z_ct hF hc23
    refine lv_aload_n S.1 S.2.1 dX6_order_17 rfl (lv_at hl 1 rfl) ?_
    refine z_get (k := 0) (i := 0) (f := 4) (v := .ref (g.1 21 0)) S hK hR (by decide) rfl rfl (by decide) wf_X6_36 rfl dX6_order_18 ?_
    refine lv_aload_n S.1 S.2.1 dX6_order_21 rfl (lv_at hl 1 rfl) ?_
    refine z_get (k := 0) (i := 0) (f := 0) (v := .ref (g.1 1 0)) S hK hR (by decide) rfl rfl (by decide) wf_X6_10 rfl dX6_order_22 ?_
    refine z_gov hS hF (fun _ _ ho => va_runV (C := RX0) (n := 1) (As := [.ref (g.1 1 0)]) (rest := []) S (kX0_record l hg (by decide) ho) (cwV 1 S.2.2.2.2 (zgV wm_X6_65 oX0_record) rfl rfl rfl hX0_record ⟨Nat.le_of_ble_eq_true rfl, Nat.le_of_ble_eq_true rfl⟩) ⟨zPc_blind, z_recv hK hR (by decide) rfl rfl, z_pre hK hR⟩ rfl rfl hl.1 rfl (lv_room (Nat.le_of_ble_eq_true rfl)) dX6_order_25 ⟨Nat.zero_le _, Nat.zero_le _⟩) (fun M24 H locs hR hS hF => ?_)
    refine lv_aload_n S.1 S.2.1 dX6_order_28 rfl (lv_at hl 1 rfl) ?_
    refine z_get (k := 0) (i := 0) (f := 0) (v := .ref (g.1 1 0)) S hK hR (by decide) rfl rfl (by decide) wf_X6_10 rfl dX6_order_29 ?_
    refine lv_iload_n S.1 S.2.1 dX6_order_32 rfl (lv_at hl 2 rfl) ?_
    refine lv_iload_n S.1 S.2.1 dX6_order_33 rfl (lv_at hl 3 rfl) ?_
    refine lv_iload_n S.1 S.2.1 dX6_order_34 rfl (lv_at hl 4 rfl) ?_
    refine z_goi hS hF (fun _ _ ho => va_runV (C := RX2) (n := 3) (As := [.int v1, .int v2, .int v3]) (rest := []) S (kX2_turn l hg (by decide) ho) (cwV 3 S.2.2.2.2 (zgV wm_X6_77 oX2_turn) rfl rfl rfl hX2_turn ⟨Nat.le_of_ble_eq_true rfl, Nat.le_of_ble_eq_true rfl⟩) ⟨zPc_blind, z_recv hK hR (by decide) rfl rfl, z_pre hK hR⟩ rfl rfl hl.1 rfl (lv_room (Nat.le_of_ble_eq_true rfl)) dX6_order_35 ⟨Nat.zero_le _, Nat.zero_le _⟩) (fun r26 M25 H locs hR hS hF => ?_)
    exact z_iret S hr hlk hR hS hF dX6_order_38
  · replace hF := z_cf hF hc23
    refine lv_iload S.1 S.2.1 dX6_order_14 (lv_at hl 0 rfl) ?_
    exact z_iret S hr hlk hR hS hF dX6_order_16
theorem hX6_step : yX6_step.cls = RX6 ∧ yX6_step.cls ≠ "java/lang/invoke/MethodHandle" ∧ yX6_step.cls ≠ "java/lang/invoke/VarHandle" ∧ (parseMethodDescriptor yX6_step.desc).map (fun d => d.parameters.length) = some 2 := by decide +kernel
theorem oX6_step : Cond.instanceMethod yX6_step ∈ zT ∧ Cond.selects RX6 yX6_step yX6_step ∈ zT ∧ Cond.initialized RX6 ∈ zT ∧ Cond.code yX6_step cX6_step 4 (some .int) ∈ zT := ⟨wv_X6_step, we_X6_step, wi_X6, wk_X6_step⟩
set_option maxRecDepth 100000 in
set_option maxHeartbeats 4000000 in
theorem kX6_step (l : Launch) {g : zGeo} {z : Nat} (hg : zAd g z) {M M' : zM} {v1 : Int32} {v2 : Int32} {r : Int32} (hF : fX6_step M v1 v2 = some (r, M')) : Met l yX6_step [.code yX6_step cX6_step 4 (some .int)] { frames := 5, cells := 0, slots := 0, locals := 124 } (zPc g M [.ref (g.1 0 0), .int v1, .int v2]) (zQi g z r M') 0 0 (zS z) := by
  refine z_enter (cc := cX6_step) (maxL := 4) (ret := (some .int)) (by decide) rfl (Nat.le_of_ble_eq_true rfl) ?_
  intro p e s m below meth c S hr hlk hK hR hS ls hl
  have S : CallFix p m c cX6_step 4 s _ zT RX6 := S
  have hl : lv_has ls 4 [(0, .ref (g.1 0 0)), (1, .int v1), (2, .int v2)] := hl
  unfold fX6_step at hF
  refine lv_aload_n S.1 S.2.1 dX6_step_0 rfl (lv_at hl 0 rfl) ?_
  refine z_get (k := 0) (i := 0) (f := 0) (v := .ref (g.1 1 0)) S hK hR (by decide) rfl rfl (by decide) wf_X6_10 rfl dX6_step_1 ?_
  refine lv_iload_n S.1 S.2.1 dX6_step_4 rfl (lv_at hl 1 rfl) ?_
  refine z_goi hS hF (fun _ _ ho => va_runV (C := RX2) (n := 1) (As := [.int v1]) (rest := []) S (kX2_has l hg (by decide) ho) (cwV 1 S.2.2.2.2 (zgV wm_X6_80 oX2_has) rfl rfl rfl hX2_has ⟨Nat.le_of_ble_eq_true rfl, Nat.le_of_ble_eq_true rfl⟩) ⟨zPc_blind, z_recv hK hR (by decide) rfl rfl, z_pre hK hR⟩ rfl rfl hl.1 rfl (lv_room (Nat.le_of_ble_eq_true rfl)) dX6_step_5 ⟨Nat.zero_le _, Nat.zero_le _⟩) (fun r22 M21 H locs hR hS hF => ?_)
  refine lv_if_ne (tgt := 13) S.1 S.2.1 dX6_step_8 (by decide) (fun hc23 => ?_) (fun hc23 => ?_)
  · replace hF := z_cf hF hc23
    refine lv_iload_n S.1 S.2.1 dX6_step_13 rfl (lv_at hl 2 rfl) ?_
    refine lv_iconst (v := 0) S.1 S.2.1 dX6_step_14 (by decide) ?_
    refine lv_bipush (v := 63) S.1 S.2.1 dX6_step_15 (by decide) ?_
    refine z_goi hS hF (fun _ _ ho => va_runS (n := 3) (As := [.int v2, .int 0, .int 63]) (rest := []) S (kX6_isWithin l hg ho) (va_cwS 3 S.2.2.2.2 (zgS wm_X6_57 oX6_isWithin) rfl rfl rfl hX6_isWithin.2 ⟨Nat.le_of_ble_eq_true rfl, Nat.le_of_ble_eq_true rfl⟩) ⟨zPc_blind, z_pre hK hR⟩ rfl rfl hl.1 rfl (lv_room (Nat.le_of_ble_eq_true rfl)) dX6_step_17 ⟨Nat.zero_le _, Nat.zero_le _⟩) (fun r25 M24 H locs hR hS hF => ?_)
    refine lv_if_ne (tgt := 26) S.1 S.2.1 dX6_step_20 (by decide) (fun hc26 => ?_) (fun hc26 => ?_)
    · replace hF := z_cf hF hc26
      refine lv_aload_n S.1 S.2.1 dX6_step_26 rfl (lv_at hl 0 rfl) ?_
      refine z_get (k := 0) (i := 0) (f := 0) (v := .ref (g.1 1 0)) S hK hR (by decide) rfl rfl (by decide) wf_X6_10 rfl dX6_step_27 ?_
      refine lv_iload_n S.1 S.2.1 dX6_step_30 rfl (lv_at hl 1 rfl) ?_
      refine z_goi hS hF (fun _ _ ho => va_runV (C := RX2) (n := 1) (As := [.int v1]) (rest := []) S (kX2_isFlying l hg (by decide) ho) (cwV 1 S.2.2.2.2 (zgV wm_X6_84 oX2_isFlying) rfl rfl rfl hX2_isFlying ⟨Nat.le_of_ble_eq_true rfl, Nat.le_of_ble_eq_true rfl⟩) ⟨zPc_blind, z_recv hK hR (by decide) rfl rfl, z_pre hK hR⟩ rfl rfl hl.1 rfl (lv_room (Nat.le_of_ble_eq_true rfl)) dX6_step_31 ⟨Nat.zero_le _, Nat.zero_le _⟩) (fun r28 M27 H locs hR hS hF => ?_)
      refine lv_if_ne (tgt := 40) S.1 S.2.1 dX6_step_34 (by decide) (fun hc29 => ?_) (fun hc29 => ?_)
      · replace hF := z_cf hF hc29
        refine lv_aload_n S.1 S.2.1 dX6_step_40 rfl (lv_at hl 0 rfl) ?_
        refine z_get (k := 0) (i := 0) (f := 4) (v := .ref (g.1 21 0)) S hK hR (by decide) rfl rfl (by decide) wf_X6_36 rfl dX6_step_41 ?_
        refine lv_aload_n S.1 S.2.1 dX6_step_44 rfl (lv_at hl 0 rfl) ?_
        refine z_get (k := 0) (i := 0) (f := 0) (v := .ref (g.1 1 0)) S hK hR (by decide) rfl rfl (by decide) wf_X6_10 rfl dX6_step_45 ?_
        refine z_gov hS hF (fun _ _ ho => va_runV (C := RX0) (n := 1) (As := [.ref (g.1 1 0)]) (rest := []) S (kX0_record l hg (by decide) ho) (cwV 1 S.2.2.2.2 (zgV wm_X6_65 oX0_record) rfl rfl rfl hX0_record ⟨Nat.le_of_ble_eq_true rfl, Nat.le_of_ble_eq_true rfl⟩) ⟨zPc_blind, z_recv hK hR (by decide) rfl rfl, z_pre hK hR⟩ rfl rfl hl.1 rfl (lv_room (Nat.le_of_ble_eq_true rfl)) dX6_step_48 ⟨Nat.zero_le _, Nat.zero_le _⟩) (fun M30 H locs hR hS hF => ?_)
        refine lv_aload_n S.1 S.2.1 dX6_step_51 rfl (lv_at hl 0 rfl) ?_
        refine z_get (k := 0) (i := 0) (f := 0) (v := .ref (g.1 1 0)) S hK hR (by decide) rfl rfl (by decide) wf_X6_10 rfl dX6_step_52 ?_
        refine z_get (k := 1) (i := 0) (f := 4) (v := .ref (g.1 2 0)) S hK hR (by decide) rfl rfl (by decide) wf_X6_87 rfl dX6_step_55 ?_
        refine lv_iload_n S.1 S.2.1 dX6_step_58 rfl (lv_at hl 1 rfl) ?_
        refine z_iald (k := 2) (i := 0) (n := 6) S hK hR hF (by decide) rfl dX6_step_59 (fun hF => ?_)
        refine z_nm hF (fun v31 hF => ?_)
        refine lv_istore_n (lv' := [(3, .int v31), (0, .ref (g.1 0 0)), (1, .int v1), (2, .int v2)]) S.1 S.2.1 dX6_step_60 rfl hl (by decide) rfl (fun ls hl => ?_)
        refine lv_aload_n S.1 S.2.1 dX6_step_61 rfl (lv_at hl 1 rfl) ?_
        refine z_get (k := 0) (i := 0) (f := 0) (v := .ref (g.1 1 0)) S hK hR (by decide) rfl rfl (by decide) wf_X6_10 rfl dX6_step_62 ?_
        refine z_get (k := 1) (i := 0) (f := 4) (v := .ref (g.1 2 0)) S hK hR (by decide) rfl rfl (by decide) wf_X6_87 rfl dX6_step_65 ?_
        refine lv_iload_n S.1 S.2.1 dX6_step_68 rfl (lv_at hl 2 rfl) ?_
        refine lv_iload_n S.1 S.2.1 dX6_step_69 rfl (lv_at hl 3 rfl) ?_
        refine z_iast (k := 2) (i := 0) (n := 6) S hg hK hR hS hF (by decide) rfl dX6_step_70 (fun H locs M32 hR hS hF => ?_)
        refine lv_iload_n S.1 S.2.1 dX6_step_71 rfl (lv_at hl 0 rfl) ?_
        exact z_iret S hr hlk hR hS hF dX6_step_72
      · replace hF := z_ct hF hc29
        refine lv_bipush (v := (-5)) S.1 S.2.1 dX6_step_37 (by decide) ?_
        exact z_iret S hr hlk hR hS hF dX6_step_39
    · replace hF := z_ct hF hc26
      refine lv_bipush (v := (-2)) S.1 S.2.1 dX6_step_23 (by decide) ?_
      exact z_iret S hr hlk hR hS hF dX6_step_25
  · replace hF := z_ct hF hc23
    refine lv_iconst (v := (-1)) S.1 S.2.1 dX6_step_11 (by decide) ?_
    exact z_iret S hr hlk hR hS hF dX6_step_12
theorem hX6_land : yX6_land.cls = RX6 ∧ yX6_land.cls ≠ "java/lang/invoke/MethodHandle" ∧ yX6_land.cls ≠ "java/lang/invoke/VarHandle" ∧ (parseMethodDescriptor yX6_land.desc).map (fun d => d.parameters.length) = some 1 := by decide +kernel
theorem oX6_land : Cond.instanceMethod yX6_land ∈ zT ∧ Cond.selects RX6 yX6_land yX6_land ∈ zT ∧ Cond.initialized RX6 ∈ zT ∧ Cond.code yX6_land cX6_land 2 (some .int) ∈ zT := ⟨wv_X6_land, we_X6_land, wi_X6, wk_X6_land⟩
set_option maxRecDepth 100000 in
set_option maxHeartbeats 4000000 in
theorem kX6_land (l : Launch) {g : zGeo} {z : Nat} (hg : zAd g z) {M M' : zM} {v1 : Int32} {r : Int32} (hF : fX6_land M v1 = some (r, M')) : Met l yX6_land [.code yX6_land cX6_land 2 (some .int)] { frames := 5, cells := 0, slots := 0, locals := 124 } (zPc g M [.ref (g.1 0 0), .int v1]) (zQi g z r M') 0 0 (zS z) := by
  refine z_enter (cc := cX6_land) (maxL := 2) (ret := (some .int)) (by decide) rfl (Nat.le_of_ble_eq_true rfl) ?_
  intro p e s m below meth c S hr hlk hK hR hS ls hl
  have S : CallFix p m c cX6_land 2 s _ zT RX6 := S
  have hl : lv_has ls 2 [(0, .ref (g.1 0 0)), (1, .int v1)] := hl
  unfold fX6_land at hF
  refine lv_aload_n S.1 S.2.1 dX6_land_0 rfl (lv_at hl 0 rfl) ?_
  refine z_get (k := 0) (i := 0) (f := 0) (v := .ref (g.1 1 0)) S hK hR (by decide) rfl rfl (by decide) wf_X6_10 rfl dX6_land_1 ?_
  refine lv_iload_n S.1 S.2.1 dX6_land_4 rfl (lv_at hl 1 rfl) ?_
  refine z_goi hS hF (fun _ _ ho => va_runV (C := RX2) (n := 1) (As := [.int v1]) (rest := []) S (kX2_has l hg (by decide) ho) (cwV 1 S.2.2.2.2 (zgV wm_X6_80 oX2_has) rfl rfl rfl hX2_has ⟨Nat.le_of_ble_eq_true rfl, Nat.le_of_ble_eq_true rfl⟩) ⟨zPc_blind, z_recv hK hR (by decide) rfl rfl, z_pre hK hR⟩ rfl rfl hl.1 rfl (lv_room (Nat.le_of_ble_eq_true rfl)) dX6_land_5 ⟨Nat.zero_le _, Nat.zero_le _⟩) (fun r22 M21 H locs hR hS hF => ?_)
  refine lv_if_ne (tgt := 13) S.1 S.2.1 dX6_land_8 (by decide) (fun hc23 => ?_) (fun hc23 => ?_)
  · replace hF := z_cf hF hc23
    refine lv_aload_n S.1 S.2.1 dX6_land_13 rfl (lv_at hl 0 rfl) ?_
    refine z_get (k := 0) (i := 0) (f := 0) (v := .ref (g.1 1 0)) S hK hR (by decide) rfl rfl (by decide) wf_X6_10 rfl dX6_land_14 ?_
    refine lv_iload_n S.1 S.2.1 dX6_land_17 rfl (lv_at hl 1 rfl) ?_
    refine z_goi hS hF (fun _ _ ho => va_runV (C := RX2) (n := 1) (As := [.int v1]) (rest := []) S (kX2_isFlying l hg (by decide) ho) (cwV 1 S.2.2.2.2 (zgV wm_X6_84 oX2_isFlying) rfl rfl rfl hX2_isFlying ⟨Nat.le_of_ble_eq_true rfl, Nat.le_of_ble_eq_true rfl⟩) ⟨zPc_blind, z_recv hK hR (by decide) rfl rfl, z_pre hK hR⟩ rfl rfl hl.1 rfl (lv_room (Nat.le_of_ble_eq_true rfl)) dX6_land_18 ⟨Nat.zero_le _, Nat.zero_le _⟩) (fun r25 M24 H locs hR hS hF => ?_)
    refine lv_if_ne (tgt := 27) S.1 S.2.1 dX6_land_21 (by decide) (fun hc26 => ?_) (fun hc26 => ?_)
    · replace hF := z_cf hF hc26
      refine lv_aload_n S.1 S.2.1 dX6_land_27 rfl (lv_at hl 0 rfl) ?_
      refine z_get (k := 0) (i := 0) (f := 4) (v := .ref (g.1 21 0)) S hK hR (by decide) rfl rfl (by decide) wf_X6_36 rfl dX6_land_28 ?_
      refine lv_aload_n S.1 S.2.1 dX6_land_31 rfl (lv_at hl 0 rfl) ?_
      refine z_get (k := 0) (i := 0) (f := 0) (v := .ref (g.1 1 0)) S hK hR (by decide) rfl rfl (by decide) wf_X6_10 rfl dX6_land_32 ?_
      refine z_gov hS hF (fun _ _ ho => va_runV (C := RX0) (n := 1) (As := [.ref (g.1 1 0)]) (rest := []) S (kX0_record l hg (by decide) ho) (cwV 1 S.2.2.2.2 (zgV wm_X6_65 oX0_record) rfl rfl rfl hX0_record ⟨Nat.le_of_ble_eq_true rfl, Nat.le_of_ble_eq_true rfl⟩) ⟨zPc_blind, z_recv hK hR (by decide) rfl rfl, z_pre hK hR⟩ rfl rfl hl.1 rfl (lv_room (Nat.le_of_ble_eq_true rfl)) dX6_land_35 ⟨Nat.zero_le _, Nat.zero_le _⟩) (fun M27 H locs hR hS hF => ?_)
      refine lv_aload_n S.1 S.2.1 dX6_land_38 rfl (lv_at hl 0 rfl) ?_
      refine z_get (k := 0) (i := 0) (f := 0) (v := .ref (g.1 1 0)) S hK hR (by decide) rfl rfl (by decide) wf_X6_10 rfl dX6_land_39 ?_
      refine z_get (k := 1) (i := 0) (f := 12) (v := .ref (g.1 10 0)) S hK hR (by decide) rfl rfl (by decide) wf_X6_91 rfl dX6_land_42 ?_
      refine lv_iload_n S.1 S.2.1 dX6_land_45 rfl (lv_at hl 1 rfl) ?_
      refine lv_iconst (v := 2) S.1 S.2.1 dX6_land_46 (by decide) ?_
      refine z_iast (k := 10) (i := 0) (n := 6) S hg hK hR hS hF (by decide) rfl dX6_land_47 (fun H locs M28 hR hS hF => ?_)
      refine lv_aload_n S.1 S.2.1 dX6_land_48 rfl (lv_at hl 0 rfl) ?_
      refine z_get (k := 0) (i := 0) (f := 0) (v := .ref (g.1 1 0)) S hK hR (by decide) rfl rfl (by decide) wf_X6_10 rfl dX6_land_49 ?_
      refine lv_iload_n S.1 S.2.1 dX6_land_52 rfl (lv_at hl 1 rfl) ?_
      refine lv_aload_n S.1 S.2.1 dX6_land_53 rfl (lv_at hl 0 rfl) ?_
      refine z_get (k := 0) (i := 0) (f := 0) (v := .ref (g.1 1 0)) S hK hR (by decide) rfl rfl (by decide) wf_X6_10 rfl dX6_land_54 ?_
      refine lv_iload_n S.1 S.2.1 dX6_land_57 rfl (lv_at hl 1 rfl) ?_
      refine z_goi hS hF (fun _ _ ho => va_runV (C := RX2) (n := 1) (As := [.int v1]) (rest := [.int v1, .ref (g.1 1 0)]) S (kX2_mostWornPlace l hg (by decide) ho) (cwV 1 S.2.2.2.2 (zgV wm_X6_94 oX2_mostWornPlace) rfl rfl rfl hX2_mostWornPlace ⟨Nat.le_of_ble_eq_true rfl, Nat.le_of_ble_eq_true rfl⟩) ⟨zPc_blind, z_recv hK hR (by decide) rfl rfl, z_pre hK hR⟩ rfl rfl hl.1 rfl (lv_room (Nat.le_of_ble_eq_true rfl)) dX6_land_58 ⟨Nat.zero_le _, Nat.zero_le _⟩) (fun r30 M29 H locs hR hS hF => ?_)
      refine z_goi hS hF (fun _ _ ho => va_runV (C := RX2) (n := 2) (As := [.int v1, .int r30]) (rest := []) S (kX2_wearAt l hg (by decide) ho) (cwV 2 S.2.2.2.2 (zgV wm_X6_98 oX2_wearAt) rfl rfl rfl hX2_wearAt ⟨Nat.le_of_ble_eq_true rfl, Nat.le_of_ble_eq_true rfl⟩) ⟨zPc_blind, z_recv hK hR (by decide) rfl rfl, z_pre hK hR⟩ rfl rfl hl.1 rfl (lv_room (Nat.le_of_ble_eq_true rfl)) dX6_land_61 ⟨Nat.zero_le _, Nat.zero_le _⟩) (fun r32 M31 H locs hR hS hF => ?_)
      exact z_iret S hr hlk hR hS hF dX6_land_64
    · replace hF := z_ct hF hc26
      refine lv_bipush (v := (-5)) S.1 S.2.1 dX6_land_24 (by decide) ?_
      exact z_iret S hr hlk hR hS hF dX6_land_26
  · replace hF := z_ct hF hc23
    refine lv_iconst (v := (-1)) S.1 S.2.1 dX6_land_11 (by decide) ?_
    exact z_iret S hr hlk hR hS hF dX6_land_12
theorem hX6_pass : yX6_pass.cls = RX6 ∧ yX6_pass.cls ≠ "java/lang/invoke/MethodHandle" ∧ yX6_pass.cls ≠ "java/lang/invoke/VarHandle" ∧ (parseMethodDescriptor yX6_pass.desc).map (fun d => d.parameters.length) = some 1 := by decide +kernel
theorem oX6_pass : Cond.instanceMethod yX6_pass ∈ zT ∧ Cond.selects RX6 yX6_pass yX6_pass ∈ zT ∧ Cond.initialized RX6 ∈ zT ∧ Cond.code yX6_pass cX6_pass 4 (some .int) ∈ zT := ⟨wv_X6_pass, we_X6_pass, wi_X6, wk_X6_pass⟩
set_option maxRecDepth 100000 in
set_option maxHeartbeats 4000000 in
theorem kX6_pass (l : Launch) {g : zGeo} {z : Nat} (hg : zAd g z) {M M' : zM} {v1 : Int32} {r : Int32} (hF : fX6_pass M v1 = some (r, M')) : Met l yX6_pass [.code yX6_pass cX6_pass 4 (some .int)] { frames := 6, cells := 0, slots := 0, locals := 134 } (zPc g M [.ref (g.1 0 0), .int v1]) (zQi g z r M') 0 0 (zS z) := by
  refine z_enter (cc := cX6_pass) (maxL := 4) (ret := (some .int)) (by decide) rfl (Nat.le_of_ble_eq_true rfl) ?_
  intro p e s m below meth c S hr hlk hK hR hS ls hl
  have S : CallFix p m c cX6_pass 4 s _ zT RX6 := S
  have hl : lv_has ls 4 [(0, .ref (g.1 0 0)), (1, .int v1)] := hl
  have L29 : ∀ (k : zM → Int32 → Int32 → Option (Int32 × zM)) (a1 : Int32), (∀ (M : zM) (a2 : Int32) (a3 : Int32) (H : Heap) (locs : List Loc), zR g M H → va_S (zS z) s.heap H locs → ∀ ls : Array Slot, lv_has ls 4 [(0, .ref (g.1 0 0)), (1, .int a1), (2, .int a2), (3, .int a3)] → k M a2 a3 = some (r, M') → W p l e { frames := 6, cells := 0, slots := 0, locals := 134 } s m ([.ref (g.1 0 0), .int v1] : List Value).toArray below meth c H locs 0 0 (MQ below (zQi g z r M') ([.ref (g.1 0 0), .int v1] : List Value).toArray s 0 0 (zS z)) (F0 m 61 ls [])) → ∀ (n : Nat) (M : zM) (a2 : Int32) (a3 : Int32) (H : Heap) (locs : List Loc), zR g M H → va_S (zS z) s.heap H locs → ∀ ls : Array Slot, lv_has ls 4 [(0, .ref (g.1 0 0)), (1, .int a1), (2, .int a2), (3, .int a3)] → fX6_pass_L29 k a1 n M a2 a3 = some (r, M') → W p l e { frames := 6, cells := 0, slots := 0, locals := 134 } s m ([.ref (g.1 0 0), .int v1] : List Value).toArray below meth c H locs 0 0 (MQ below (zQi g z r M') ([.ref (g.1 0 0), .int v1] : List Value).toArray s 0 0 (zS z)) (F0 m 29 ls []) := by
    intro k a1 hk n
    induction n with
    | zero =>
      intro M a2 a3 H locs hR hS ls hl hF
      cases hF
    | succ n ih =>
      intro M a2 a3 H locs hR hS ls hl hF
      unfold fX6_pass_L29 at hF
      refine lv_iload_n S.1 S.2.1 dX6_pass_29 rfl (lv_at hl 3 rfl) ?_
      refine lv_iload_n S.1 S.2.1 dX6_pass_30 rfl (lv_at hl 1 rfl) ?_
      refine lv_icmp_ge (tgt := 61) S.1 S.2.1 dX6_pass_31 (by decide) (fun hc25 => ?_) (fun hc25 => ?_)
      · replace hF := z_ct hF hc25
        exact hk _ _ _ _ _ hR hS _ (lv_sub hl [0, 1, 2, 3] rfl) hF
      · replace hF := z_cf hF hc25
        refine lv_aload_n S.1 S.2.1 dX6_pass_34 rfl (lv_at hl 0 rfl) ?_
        refine z_get (k := 0) (i := 0) (f := 3) (v := .ref (g.1 20 0)) S hK hR (by decide) rfl rfl (by decide) wf_X6_29 rfl dX6_pass_35 ?_
        refine lv_aload_n S.1 S.2.1 dX6_pass_38 rfl (lv_at hl 0 rfl) ?_
        refine z_get (k := 0) (i := 0) (f := 0) (v := .ref (g.1 1 0)) S hK hR (by decide) rfl rfl (by decide) wf_X6_10 rfl dX6_pass_39 ?_
        refine z_gov hS hF (fun _ _ ho => va_runV (C := RX4) (n := 1) (As := [.ref (g.1 1 0)]) (rest := []) S (kX4_happenIn l hg (by decide) ho) (cwV 1 S.2.2.2.2 (zgV wm_X6_102 oX4_happenIn) rfl rfl rfl hX4_happenIn ⟨Nat.le_of_ble_eq_true rfl, Nat.le_of_ble_eq_true rfl⟩) ⟨zPc_blind, z_recv hK hR (by decide) rfl rfl, z_pre hK hR⟩ rfl rfl hl.1 rfl (lv_room (Nat.le_of_ble_eq_true rfl)) dX6_pass_42 ⟨Nat.zero_le _, Nat.zero_le _⟩) (fun M26 H locs hR hS hF => ?_)
        refine lv_iload_n S.1 S.2.1 dX6_pass_45 rfl (lv_at hl 2 rfl) ?_
        refine lv_aload_n S.1 S.2.1 dX6_pass_46 rfl (lv_at hl 0 rfl) ?_
        refine z_get (k := 0) (i := 0) (f := 3) (v := .ref (g.1 20 0)) S hK hR (by decide) rfl rfl (by decide) wf_X6_29 rfl dX6_pass_47 ?_
        refine z_get (k := 20) (i := 0) (f := 1) (v := .int (M26 20 0 1)) S hK hR (by decide) rfl rfl (by decide) wf_X6_105 rfl dX6_pass_50 ?_
        refine lv_ior S.1 S.2.1 dX6_pass_53 ?_
        refine z_nm hF (fun v27 hF => ?_)
        refine lv_istore_n (lv' := [(2, .int v27), (0, .ref (g.1 0 0)), (1, .int a1), (3, .int a3)]) S.1 S.2.1 dX6_pass_54 rfl hl (by decide) rfl (fun ls hl => ?_)
        obtain ⟨v28, ev28, hF⟩ := zL_out hF
        refine lv_iinc (v := v28) (lv' := [(3, .int v28), (2, .int v27), (0, .ref (g.1 0 0)), (1, .int a1)]) S.1 S.2.1 dX6_pass_55 hl (k := 3) rfl (by rw [← ev28]; rfl) (by decide) rfl (fun ls hl => ?_)
        refine lv_goto (tgt := 29) S.1 S.2.1 dX6_pass_58 (by decide) ?_
        exact ih _ _ _ _ _ hR hS _ (lv_sub hl [2, 3, 1, 0] rfl) hF
  unfold fX6_pass at hF
  refine lv_iload_n S.1 S.2.1 dX6_pass_0 rfl (lv_at hl 1 rfl) ?_
  refine lv_iconst (v := 1) S.1 S.2.1 dX6_pass_1 (by decide) ?_
  refine lv_sipush (v := 200) S.1 S.2.1 dX6_pass_2 (by decide) ?_
  refine z_goi hS hF (fun _ _ ho => va_runS (n := 3) (As := [.int v1, .int 1, .int 200]) (rest := []) S (kX6_isWithin l hg ho) (va_cwS 3 S.2.2.2.2 (zgS wm_X6_57 oX6_isWithin) rfl rfl rfl hX6_isWithin.2 ⟨Nat.le_of_ble_eq_true rfl, Nat.le_of_ble_eq_true rfl⟩) ⟨zPc_blind, z_pre hK hR⟩ rfl rfl hl.1 rfl (lv_room (Nat.le_of_ble_eq_true rfl)) dX6_pass_5 ⟨Nat.zero_le _, Nat.zero_le _⟩) (fun r22 M21 H locs hR hS hF => ?_)
  refine lv_if_ne (tgt := 14) S.1 S.2.1 dX6_pass_8 (by decide) (fun hc23 => ?_) (fun hc23 => ?_)
  · replace hF := z_cf hF hc23
    refine lv_aload_n S.1 S.2.1 dX6_pass_14 rfl (lv_at hl 0 rfl) ?_
    refine z_get (k := 0) (i := 0) (f := 4) (v := .ref (g.1 21 0)) S hK hR (by decide) rfl rfl (by decide) wf_X6_36 rfl dX6_pass_15 ?_
    refine lv_aload_n S.1 S.2.1 dX6_pass_18 rfl (lv_at hl 0 rfl) ?_
    refine z_get (k := 0) (i := 0) (f := 0) (v := .ref (g.1 1 0)) S hK hR (by decide) rfl rfl (by decide) wf_X6_10 rfl dX6_pass_19 ?_
    refine z_gov hS hF (fun _ _ ho => va_runV (C := RX0) (n := 1) (As := [.ref (g.1 1 0)]) (rest := []) S (kX0_record l hg (by decide) ho) (cwV 1 S.2.2.2.2 (zgV wm_X6_65 oX0_record) rfl rfl rfl hX0_record ⟨Nat.le_of_ble_eq_true rfl, Nat.le_of_ble_eq_true rfl⟩) ⟨zPc_blind, z_recv hK hR (by decide) rfl rfl, z_pre hK hR⟩ rfl rfl hl.1 rfl (lv_room (Nat.le_of_ble_eq_true rfl)) dX6_pass_22 ⟨Nat.zero_le _, Nat.zero_le _⟩) (fun M24 H locs hR hS hF => ?_)
    refine lv_iconst (v := 0) S.1 S.2.1 dX6_pass_25 (by decide) ?_
    refine lv_istore_n (lv' := [(2, .int 0), (0, .ref (g.1 0 0)), (1, .int v1)]) S.1 S.2.1 dX6_pass_26 rfl hl (by decide) rfl (fun ls hl => ?_)
    refine lv_iconst (v := 0) S.1 S.2.1 dX6_pass_27 (by decide) ?_
    refine lv_istore_n (lv' := [(3, .int 0), (2, .int 0), (0, .ref (g.1 0 0)), (1, .int v1)]) S.1 S.2.1 dX6_pass_28 rfl hl (by decide) rfl (fun ls hl => ?_)
    refine L29 _ _ (fun M29 v30 v31 H locs hR hS ls hl hF => ?_) _ _ _ _ _ _ hR hS _ (lv_sub hl [2, 3, 1, 0] rfl) hF
    refine lv_iload_n S.1 S.2.1 dX6_pass_61 rfl (lv_at hl 2 rfl) ?_
    exact z_iret S hr hlk hR hS hF dX6_pass_62
  · replace hF := z_ct hF hc23
    refine lv_bipush (v := (-2)) S.1 S.2.1 dX6_pass_11 (by decide) ?_
    exact z_iret S hr hlk hR hS hF dX6_pass_13
theorem hX6_round : yX6_round.cls = RX6 ∧ yX6_round.cls ≠ "java/lang/invoke/MethodHandle" ∧ yX6_round.cls ≠ "java/lang/invoke/VarHandle" ∧ (parseMethodDescriptor yX6_round.desc).map (fun d => d.parameters.length) = some 0 := by decide +kernel
theorem oX6_round : Cond.instanceMethod yX6_round ∈ zT ∧ Cond.selects RX6 yX6_round yX6_round ∈ zT ∧ Cond.initialized RX6 ∈ zT ∧ Cond.code yX6_round cX6_round 1 (some .int) ∈ zT := ⟨wv_X6_round, we_X6_round, wi_X6, wk_X6_round⟩
set_option maxRecDepth 100000 in
set_option maxHeartbeats 4000000 in
theorem kX6_round (l : Launch) {g : zGeo} {z : Nat} (hg : zAd g z) {M M' : zM}  {r : Int32} (hF : fX6_round M = some (r, M')) : Met l yX6_round [.code yX6_round cX6_round 1 (some .int)] { frames := 5, cells := 0, slots := 0, locals := 124 } (zPc g M [.ref (g.1 0 0)]) (zQi g z r M') 0 0 (zS z) := by
  refine z_enter (cc := cX6_round) (maxL := 1) (ret := (some .int)) (by decide) rfl (Nat.le_of_ble_eq_true rfl) ?_
  intro p e s m below meth c S hr hlk hK hR hS ls hl
  have S : CallFix p m c cX6_round 1 s _ zT RX6 := S
  have hl : lv_has ls 1 [(0, .ref (g.1 0 0))] := hl
  unfold fX6_round at hF
  refine lv_aload_n S.1 S.2.1 dX6_round_0 rfl (lv_at hl 0 rfl) ?_
  refine z_get (k := 0) (i := 0) (f := 4) (v := .ref (g.1 21 0)) S hK hR (by decide) rfl rfl (by decide) wf_X6_36 rfl dX6_round_1 ?_
  refine lv_aload_n S.1 S.2.1 dX6_round_4 rfl (lv_at hl 0 rfl) ?_
  refine z_get (k := 0) (i := 0) (f := 0) (v := .ref (g.1 1 0)) S hK hR (by decide) rfl rfl (by decide) wf_X6_10 rfl dX6_round_5 ?_
  refine z_gov hS hF (fun _ _ ho => va_runV (C := RX0) (n := 1) (As := [.ref (g.1 1 0)]) (rest := []) S (kX0_record l hg (by decide) ho) (cwV 1 S.2.2.2.2 (zgV wm_X6_65 oX0_record) rfl rfl rfl hX0_record ⟨Nat.le_of_ble_eq_true rfl, Nat.le_of_ble_eq_true rfl⟩) ⟨zPc_blind, z_recv hK hR (by decide) rfl rfl, z_pre hK hR⟩ rfl rfl hl.1 rfl (lv_room (Nat.le_of_ble_eq_true rfl)) dX6_round_8 ⟨Nat.zero_le _, Nat.zero_le _⟩) (fun M21 H locs hR hS hF => ?_)
  refine lv_aload_n S.1 S.2.1 dX6_round_11 rfl (lv_at hl 0 rfl) ?_
  refine z_get (k := 0) (i := 0) (f := 0) (v := .ref (g.1 1 0)) S hK hR (by decide) rfl rfl (by decide) wf_X6_10 rfl dX6_round_12 ?_
  refine z_gov hS hF (fun _ _ ho => va_runV (C := RX2) (n := 0) (As := []) (rest := []) S (kX2_beginAnew l hg (by decide) ho) (cwV 0 S.2.2.2.2 (zgV wm_X6_109 oX2_beginAnew) rfl rfl rfl hX2_beginAnew ⟨Nat.le_of_ble_eq_true rfl, Nat.le_of_ble_eq_true rfl⟩) ⟨zPc_blind, z_recv hK hR (by decide) rfl rfl, z_pre hK hR⟩ rfl rfl hl.1 rfl (lv_room (Nat.le_of_ble_eq_true rfl)) dX6_round_15 ⟨Nat.zero_le _, Nat.zero_le _⟩) (fun M22 H locs hR hS hF => ?_)
  refine lv_aload_n S.1 S.2.1 dX6_round_18 rfl (lv_at hl 0 rfl) ?_
  refine z_get (k := 0) (i := 0) (f := 0) (v := .ref (g.1 1 0)) S hK hR (by decide) rfl rfl (by decide) wf_X6_10 rfl dX6_round_19 ?_
  refine z_get (k := 1) (i := 0) (f := 2) (v := .int (M22 1 0 2)) S hK hR (by decide) rfl rfl (by decide) wf_X6_112 rfl dX6_round_22 ?_
  exact z_iret S hr hlk hR hS hF dX6_round_25
theorem hX6_aboutKite : yX6_aboutKite.cls = RX6 ∧ yX6_aboutKite.cls ≠ "java/lang/invoke/MethodHandle" ∧ yX6_aboutKite.cls ≠ "java/lang/invoke/VarHandle" ∧ (parseMethodDescriptor yX6_aboutKite.desc).map (fun d => d.parameters.length) = some 2 := by decide +kernel
theorem oX6_aboutKite : Cond.instanceMethod yX6_aboutKite ∈ zT ∧ Cond.selects RX6 yX6_aboutKite yX6_aboutKite ∈ zT ∧ Cond.initialized RX6 ∈ zT ∧ Cond.code yX6_aboutKite cX6_aboutKite 3 (some .int) ∈ zT := ⟨wv_X6_aboutKite, we_X6_aboutKite, wi_X6, wk_X6_aboutKite⟩
set_option maxRecDepth 100000 in
set_option maxHeartbeats 4000000 in
theorem kX6_aboutKite (l : Launch) {g : zGeo} {z : Nat} (hg : zAd g z) {M M' : zM} {v1 : Int32} {v2 : Int32} {r : Int32} (hF : fX6_aboutKite M v1 v2 = some (r, M')) : Met l yX6_aboutKite [.code yX6_aboutKite cX6_aboutKite 3 (some .int)] { frames := 0, cells := 0, slots := 0, locals := 0 } (zPc g M [.ref (g.1 0 0), .int v1, .int v2]) (zQi g z r M') 0 0 (zS z) := by
  refine z_enter (cc := cX6_aboutKite) (maxL := 3) (ret := (some .int)) (by decide) rfl (Nat.le_of_ble_eq_true rfl) ?_
  intro p e s m below meth c S hr hlk hK hR hS ls hl
  have S : CallFix p m c cX6_aboutKite 3 s _ zT RX6 := S
  have hl : lv_has ls 3 [(0, .ref (g.1 0 0)), (1, .int v1), (2, .int v2)] := hl
  unfold fX6_aboutKite at hF
  refine lv_iload_n S.1 S.2.1 dX6_aboutKite_0 rfl (lv_at hl 2 rfl) ?_
  by_cases hc0 : v2 = 0
  · replace hF := z_ct hF hc0
    refine lv_tableIn (tgt := 48) S.1 S.2.1 dX6_aboutKite_1 (by rw [hc0]; decide) (by rw [hc0]; decide) (by rw [hc0]; rfl) (by decide) ?_
    refine lv_aload_n S.1 S.2.1 dX6_aboutKite_48 rfl (lv_at hl 0 rfl) ?_
    refine z_get (k := 0) (i := 0) (f := 0) (v := .ref (g.1 1 0)) S hK hR (by decide) rfl rfl (by decide) wf_X6_10 rfl dX6_aboutKite_49 ?_
    refine z_get (k := 1) (i := 0) (f := 4) (v := .ref (g.1 2 0)) S hK hR (by decide) rfl rfl (by decide) wf_X6_87 rfl dX6_aboutKite_52 ?_
    refine lv_iload_n S.1 S.2.1 dX6_aboutKite_55 rfl (lv_at hl 1 rfl) ?_
    refine z_iald (k := 2) (i := 0) (n := 6) S hK hR hF (by decide) rfl dX6_aboutKite_56 (fun hF => ?_)
    exact z_iret S hr hlk hR hS hF dX6_aboutKite_57
  replace hF := z_cf hF hc0
  by_cases hc1 : v2 = 1
  · replace hF := z_ct hF hc1
    refine lv_tableIn (tgt := 58) S.1 S.2.1 dX6_aboutKite_1 (by rw [hc1]; decide) (by rw [hc1]; decide) (by rw [hc1]; rfl) (by decide) ?_
    refine lv_aload_n S.1 S.2.1 dX6_aboutKite_58 rfl (lv_at hl 0 rfl) ?_
    refine z_get (k := 0) (i := 0) (f := 0) (v := .ref (g.1 1 0)) S hK hR (by decide) rfl rfl (by decide) wf_X6_10 rfl dX6_aboutKite_59 ?_
    refine z_get (k := 1) (i := 0) (f := 5) (v := .ref (g.1 3 0)) S hK hR (by decide) rfl rfl (by decide) wf_X6_149 rfl dX6_aboutKite_62 ?_
    refine lv_iload_n S.1 S.2.1 dX6_aboutKite_65 rfl (lv_at hl 1 rfl) ?_
    refine z_iald (k := 3) (i := 0) (n := 6) S hK hR hF (by decide) rfl dX6_aboutKite_66 (fun hF => ?_)
    exact z_iret S hr hlk hR hS hF dX6_aboutKite_67
  replace hF := z_cf hF hc1
  by_cases hc2 : v2 = 2
  · replace hF := z_ct hF hc2
    refine lv_tableIn (tgt := 68) S.1 S.2.1 dX6_aboutKite_1 (by rw [hc2]; decide) (by rw [hc2]; decide) (by rw [hc2]; rfl) (by decide) ?_
    refine lv_aload_n S.1 S.2.1 dX6_aboutKite_68 rfl (lv_at hl 0 rfl) ?_
    refine z_get (k := 0) (i := 0) (f := 0) (v := .ref (g.1 1 0)) S hK hR (by decide) rfl rfl (by decide) wf_X6_10 rfl dX6_aboutKite_69 ?_
    refine z_get (k := 1) (i := 0) (f := 6) (v := .ref (g.1 4 0)) S hK hR (by decide) rfl rfl (by decide) wf_X6_152 rfl dX6_aboutKite_72 ?_
    refine lv_iload_n S.1 S.2.1 dX6_aboutKite_75 rfl (lv_at hl 1 rfl) ?_
    refine z_iald (k := 4) (i := 0) (n := 6) S hK hR hF (by decide) rfl dX6_aboutKite_76 (fun hF => ?_)
    exact z_iret S hr hlk hR hS hF dX6_aboutKite_77
  replace hF := z_cf hF hc2
  by_cases hc3 : v2 = 3
  · replace hF := z_ct hF hc3
    refine lv_tableIn (tgt := 78) S.1 S.2.1 dX6_aboutKite_1 (by rw [hc3]; decide) (by rw [hc3]; decide) (by rw [hc3]; rfl) (by decide) ?_
    refine lv_aload_n S.1 S.2.1 dX6_aboutKite_78 rfl (lv_at hl 0 rfl) ?_
    refine z_get (k := 0) (i := 0) (f := 0) (v := .ref (g.1 1 0)) S hK hR (by decide) rfl rfl (by decide) wf_X6_10 rfl dX6_aboutKite_79 ?_
    refine z_get (k := 1) (i := 0) (f := 7) (v := .ref (g.1 5 0)) S hK hR (by decide) rfl rfl (by decide) wf_X6_155 rfl dX6_aboutKite_82 ?_
    refine lv_iload_n S.1 S.2.1 dX6_aboutKite_85 rfl (lv_at hl 1 rfl) ?_
    refine z_iald (k := 5) (i := 0) (n := 6) S hK hR hF (by decide) rfl dX6_aboutKite_86 (fun hF => ?_)
    refine lv_bipush (v := 10) S.1 S.2.1 dX6_aboutKite_87 (by decide) ?_
    refine lv_iadd S.1 S.2.1 dX6_aboutKite_89 ?_
    exact z_iret S hr hlk hR hS hF dX6_aboutKite_90
  replace hF := z_cf hF hc3
  by_cases hc4 : v2 = 4
  · replace hF := z_ct hF hc4
    refine lv_tableIn (tgt := 91) S.1 S.2.1 dX6_aboutKite_1 (by rw [hc4]; decide) (by rw [hc4]; decide) (by rw [hc4]; rfl) (by decide) ?_
    refine lv_aload_n S.1 S.2.1 dX6_aboutKite_91 rfl (lv_at hl 0 rfl) ?_
    refine z_get (k := 0) (i := 0) (f := 0) (v := .ref (g.1 1 0)) S hK hR (by decide) rfl rfl (by decide) wf_X6_10 rfl dX6_aboutKite_92 ?_
    refine z_get (k := 1) (i := 0) (f := 8) (v := .ref (g.1 6 0)) S hK hR (by decide) rfl rfl (by decide) wf_X6_158 rfl dX6_aboutKite_95 ?_
    refine lv_iload_n S.1 S.2.1 dX6_aboutKite_98 rfl (lv_at hl 1 rfl) ?_
    refine z_iald (k := 6) (i := 0) (n := 6) S hK hR hF (by decide) rfl dX6_aboutKite_99 (fun hF => ?_)
    refine lv_bipush (v := 10) S.1 S.2.1 dX6_aboutKite_100 (by decide) ?_
    refine lv_iadd S.1 S.2.1 dX6_aboutKite_102 ?_
    exact z_iret S hr hlk hR hS hF dX6_aboutKite_103
  replace hF := z_cf hF hc4
  by_cases hc5 : v2 = 5
  · replace hF := z_ct hF hc5
    refine lv_tableIn (tgt := 104) S.1 S.2.1 dX6_aboutKite_1 (by rw [hc5]; decide) (by rw [hc5]; decide) (by rw [hc5]; rfl) (by decide) ?_
    refine lv_aload_n S.1 S.2.1 dX6_aboutKite_104 rfl (lv_at hl 0 rfl) ?_
    refine z_get (k := 0) (i := 0) (f := 0) (v := .ref (g.1 1 0)) S hK hR (by decide) rfl rfl (by decide) wf_X6_10 rfl dX6_aboutKite_105 ?_
    refine z_get (k := 1) (i := 0) (f := 9) (v := .ref (g.1 7 0)) S hK hR (by decide) rfl rfl (by decide) wf_X6_161 rfl dX6_aboutKite_108 ?_
    refine lv_iload_n S.1 S.2.1 dX6_aboutKite_111 rfl (lv_at hl 1 rfl) ?_
    refine z_iald (k := 7) (i := 0) (n := 6) S hK hR hF (by decide) rfl dX6_aboutKite_112 (fun hF => ?_)
    exact z_iret S hr hlk hR hS hF dX6_aboutKite_113
  replace hF := z_cf hF hc5
  by_cases hc6 : v2 = 6
  · replace hF := z_ct hF hc6
    refine lv_tableIn (tgt := 114) S.1 S.2.1 dX6_aboutKite_1 (by rw [hc6]; decide) (by rw [hc6]; decide) (by rw [hc6]; rfl) (by decide) ?_
    refine lv_aload_n S.1 S.2.1 dX6_aboutKite_114 rfl (lv_at hl 0 rfl) ?_
    refine z_get (k := 0) (i := 0) (f := 0) (v := .ref (g.1 1 0)) S hK hR (by decide) rfl rfl (by decide) wf_X6_10 rfl dX6_aboutKite_115 ?_
    refine z_get (k := 1) (i := 0) (f := 10) (v := .ref (g.1 8 0)) S hK hR (by decide) rfl rfl (by decide) wf_X6_164 rfl dX6_aboutKite_118 ?_
    refine lv_iload_n S.1 S.2.1 dX6_aboutKite_121 rfl (lv_at hl 1 rfl) ?_
    refine z_iald (k := 8) (i := 0) (n := 6) S hK hR hF (by decide) rfl dX6_aboutKite_122 (fun hF => ?_)
    exact z_iret S hr hlk hR hS hF dX6_aboutKite_123
  replace hF := z_cf hF hc6
  by_cases hc7 : v2 = 7
  · replace hF := z_ct hF hc7
    refine lv_tableIn (tgt := 124) S.1 S.2.1 dX6_aboutKite_1 (by rw [hc7]; decide) (by rw [hc7]; decide) (by rw [hc7]; rfl) (by decide) ?_
    refine lv_aload_n S.1 S.2.1 dX6_aboutKite_124 rfl (lv_at hl 0 rfl) ?_
    refine z_get (k := 0) (i := 0) (f := 0) (v := .ref (g.1 1 0)) S hK hR (by decide) rfl rfl (by decide) wf_X6_10 rfl dX6_aboutKite_125 ?_
    refine z_get (k := 1) (i := 0) (f := 11) (v := .ref (g.1 9 0)) S hK hR (by decide) rfl rfl (by decide) wf_X6_167 rfl dX6_aboutKite_128 ?_
    refine lv_iload_n S.1 S.2.1 dX6_aboutKite_131 rfl (lv_at hl 1 rfl) ?_
    refine z_iald (k := 9) (i := 0) (n := 6) S hK hR hF (by decide) rfl dX6_aboutKite_132 (fun hF => ?_)
    exact z_iret S hr hlk hR hS hF dX6_aboutKite_133
  replace hF := z_cf hF hc7
  refine lv_tableOut (tgt := 134) S.1 S.2.1 dX6_aboutKite_1 (by have hn0 := z_ne hc0 (n := 0) rfl; have hn1 := z_ne hc1 (n := 1) rfl; have hn2 := z_ne hc2 (n := 2) rfl; have hn3 := z_ne hc3 (n := 3) rfl; have hn4 := z_ne hc4 (n := 4) rfl; have hn5 := z_ne hc5 (n := 5) rfl; have hn6 := z_ne hc6 (n := 6) rfl; have hn7 := z_ne hc7 (n := 7) rfl; omega) (by decide) ?_
  refine lv_aload_n S.1 S.2.1 dX6_aboutKite_134 rfl (lv_at hl 0 rfl) ?_
  refine z_get (k := 0) (i := 0) (f := 0) (v := .ref (g.1 1 0)) S hK hR (by decide) rfl rfl (by decide) wf_X6_10 rfl dX6_aboutKite_135 ?_
  refine z_get (k := 1) (i := 0) (f := 12) (v := .ref (g.1 10 0)) S hK hR (by decide) rfl rfl (by decide) wf_X6_91 rfl dX6_aboutKite_138 ?_
  refine lv_iload_n S.1 S.2.1 dX6_aboutKite_141 rfl (lv_at hl 1 rfl) ?_
  refine z_iald (k := 10) (i := 0) (n := 6) S hK hR hF (by decide) rfl dX6_aboutKite_142 (fun hF => ?_)
  exact z_iret S hr hlk hR hS hF dX6_aboutKite_143
theorem hX6_aboutString : yX6_aboutString.cls = RX6 ∧ yX6_aboutString.cls ≠ "java/lang/invoke/MethodHandle" ∧ yX6_aboutString.cls ≠ "java/lang/invoke/VarHandle" ∧ (parseMethodDescriptor yX6_aboutString.desc).map (fun d => d.parameters.length) = some 2 := by decide +kernel
theorem oX6_aboutString : Cond.instanceMethod yX6_aboutString ∈ zT ∧ Cond.selects RX6 yX6_aboutString yX6_aboutString ∈ zT ∧ Cond.initialized RX6 ∈ zT ∧ Cond.code yX6_aboutString cX6_aboutString 4 (some .int) ∈ zT := ⟨wv_X6_aboutString, we_X6_aboutString, wi_X6, wk_X6_aboutString⟩
set_option maxRecDepth 100000 in
set_option maxHeartbeats 4000000 in
theorem kX6_aboutString (l : Launch) {g : zGeo} {z : Nat} (hg : zAd g z) {M M' : zM} {v1 : Int32} {v2 : Int32} {r : Int32} (hF : fX6_aboutString M v1 v2 = some (r, M')) : Met l yX6_aboutString [.code yX6_aboutString cX6_aboutString 4 (some .int)] { frames := 4, cells := 0, slots := 0, locals := 89 } (zPc g M [.ref (g.1 0 0), .int v1, .int v2]) (zQi g z r M') 0 0 (zS z) := by
  refine z_enter (cc := cX6_aboutString) (maxL := 4) (ret := (some .int)) (by decide) rfl (Nat.le_of_ble_eq_true rfl) ?_
  intro p e s m below meth c S hr hlk hK hR hS ls hl
  have S : CallFix p m c cX6_aboutString 4 s _ zT RX6 := S
  have hl : lv_has ls 4 [(0, .ref (g.1 0 0)), (1, .int v1), (2, .int v2)] := hl
  unfold fX6_aboutString at hF
  refine lv_aload_n S.1 S.2.1 dX6_aboutString_0 rfl (lv_at hl 0 rfl) ?_
  refine z_get (k := 0) (i := 0) (f := 0) (v := .ref (g.1 1 0)) S hK hR (by decide) rfl rfl (by decide) wf_X6_10 rfl dX6_aboutString_1 ?_
  refine lv_iload_n S.1 S.2.1 dX6_aboutString_4 rfl (lv_at hl 1 rfl) ?_
  refine z_goi hS hF (fun _ _ ho => va_runV (C := RX2) (n := 1) (As := [.int v1]) (rest := []) S (kX2_isFlying l hg (by decide) ho) (cwV 1 S.2.2.2.2 (zgV wm_X6_84 oX2_isFlying) rfl rfl rfl hX2_isFlying ⟨Nat.le_of_ble_eq_true rfl, Nat.le_of_ble_eq_true rfl⟩) ⟨zPc_blind, z_recv hK hR (by decide) rfl rfl, z_pre hK hR⟩ rfl rfl hl.1 rfl (lv_room (Nat.le_of_ble_eq_true rfl)) dX6_aboutString_5 ⟨Nat.zero_le _, Nat.zero_le _⟩) (fun r22 M21 H locs hR hS hF => ?_)
  refine lv_if_ne (tgt := 13) S.1 S.2.1 dX6_aboutString_8 (by decide) (fun hc23 => ?_) (fun hc23 => ?_)
  · replace hF := z_cf hF hc23
    refine lv_aload_n S.1 S.2.1 dX6_aboutString_13 rfl (lv_at hl 0 rfl) ?_
    refine z_get (k := 0) (i := 0) (f := 0) (v := .ref (g.1 1 0)) S hK hR (by decide) rfl rfl (by decide) wf_X6_10 rfl dX6_aboutString_14 ?_
    refine lv_iload_n S.1 S.2.1 dX6_aboutString_17 rfl (lv_at hl 1 rfl) ?_
    refine z_goi hS hF (fun _ _ ho => va_runV (C := RX2) (n := 1) (As := [.int v1]) (rest := []) S (kX2_mostWornPlace l hg (by decide) ho) (cwV 1 S.2.2.2.2 (zgV wm_X6_94 oX2_mostWornPlace) rfl rfl rfl hX2_mostWornPlace ⟨Nat.le_of_ble_eq_true rfl, Nat.le_of_ble_eq_true rfl⟩) ⟨zPc_blind, z_recv hK hR (by decide) rfl rfl, z_pre hK hR⟩ rfl rfl hl.1 rfl (lv_room (Nat.le_of_ble_eq_true rfl)) dX6_aboutString_18 ⟨Nat.zero_le _, Nat.zero_le _⟩) (fun r25 M24 H locs hR hS hF => ?_)
    refine lv_istore_n (lv' := [(3, .int r25), (0, .ref (g.1 0 0)), (1, .int v1), (2, .int v2)]) S.1 S.2.1 dX6_aboutString_21 rfl hl (by decide) rfl (fun ls hl => ?_)
    refine lv_iload_n S.1 S.2.1 dX6_aboutString_22 rfl (lv_at hl 3 rfl) ?_
    by_cases hc9 : v2 = 9
    · replace hF := z_ct hF hc9
      refine lv_lookup (off := 25) (tgt := 48) S.1 S.2.1 dX6_aboutString_23 (by decide) (by rw [hc9] <;> rfl) (by decide) ?_
      refine lv_aload_n S.1 S.2.1 dX6_aboutString_48 rfl (lv_at hl 1 rfl) ?_
      refine z_get (k := 0) (i := 0) (f := 0) (v := .ref (g.1 1 0)) S hK hR (by decide) rfl rfl (by decide) wf_X6_10 rfl dX6_aboutString_49 ?_
      refine lv_iload_n S.1 S.2.1 dX6_aboutString_52 rfl (lv_at hl 2 rfl) ?_
      refine lv_iload_n S.1 S.2.1 dX6_aboutString_53 rfl (lv_at hl 0 rfl) ?_
      refine z_goi hS hF (fun _ _ ho => va_runV (C := RX2) (n := 2) (As := [.int v1, .int r25]) (rest := []) S (kX2_wearAt l hg (by decide) ho) (cwV 2 S.2.2.2.2 (zgV wm_X6_98 oX2_wearAt) rfl rfl rfl hX2_wearAt ⟨Nat.le_of_ble_eq_true rfl, Nat.le_of_ble_eq_true rfl⟩) ⟨zPc_blind, z_recv hK hR (by decide) rfl rfl, z_pre hK hR⟩ rfl rfl hl.1 rfl (lv_room (Nat.le_of_ble_eq_true rfl)) dX6_aboutString_54 ⟨Nat.zero_le _, Nat.zero_le _⟩) (fun r27 M26 H locs hR hS hF => ?_)
      exact z_iret S hr hlk hR hS hF dX6_aboutString_57
    replace hF := z_cf hF hc9
    by_cases hc10 : v2 = 10
    · replace hF := z_ct hF hc10
      refine lv_lookup (off := 35) (tgt := 58) S.1 S.2.1 dX6_aboutString_23 (by decide) (by rw [hc10] <;> rfl) (by decide) ?_
      refine lv_iload_n S.1 S.2.1 dX6_aboutString_58 rfl (lv_at hl 0 rfl) ?_
      exact z_iret S hr hlk hR hS hF dX6_aboutString_59
    replace hF := z_cf hF hc10
    refine lv_lookup (off := 37) (tgt := 60) S.1 S.2.1 dX6_aboutString_23 (by decide) (by have hn9 := z_ne hc9 (n := 9) rfl; have hn10 := z_ne hc10 (n := 10) rfl; simp [Op.lookupswitch.offset, hn9, Ne.symm hn9, hn10, Ne.symm hn10]) (by decide) ?_
    refine lv_aload_n S.1 S.2.1 dX6_aboutString_60 rfl (lv_at hl 1 rfl) ?_
    refine z_get (k := 0) (i := 0) (f := 2) (v := .ref (g.1 15 0)) S hK hR (by decide) rfl rfl (by decide) wf_X6_22 rfl dX6_aboutString_61 ?_
    refine lv_aload_n S.1 S.2.1 dX6_aboutString_64 rfl (lv_at hl 1 rfl) ?_
    refine z_get (k := 0) (i := 0) (f := 0) (v := .ref (g.1 1 0)) S hK hR (by decide) rfl rfl (by decide) wf_X6_10 rfl dX6_aboutString_65 ?_
    refine z_gov hS hF (fun _ _ ho => va_runV (C := RX5) (n := 1) (As := [.ref (g.1 1 0)]) (rest := []) S (kX5_measure l hg (by decide) (by decide) ho) (cwV 1 S.2.2.2.2 (zgV wm_X6_170 oX5_measure) rfl rfl rfl hX5_measure ⟨Nat.le_of_ble_eq_true rfl, Nat.le_of_ble_eq_true rfl⟩) ⟨zPc_blind, z_recv hK hR (by decide) rfl rfl, z_pre hK hR⟩ rfl rfl hl.1 rfl (lv_room (Nat.le_of_ble_eq_true rfl)) dX6_aboutString_68 ⟨Nat.zero_le _, Nat.zero_le _⟩) (fun M28 H locs hR hS hF => ?_)
    refine lv_aload_n S.1 S.2.1 dX6_aboutString_71 rfl (lv_at hl 1 rfl) ?_
    refine z_get (k := 0) (i := 0) (f := 2) (v := .ref (g.1 15 0)) S hK hR (by decide) rfl rfl (by decide) wf_X6_22 rfl dX6_aboutString_72 ?_
    refine lv_iload_n S.1 S.2.1 dX6_aboutString_75 rfl (lv_at hl 2 rfl) ?_
    refine z_goi hS hF (fun _ _ ho => va_runV (C := RX5) (n := 1) (As := [.int v1]) (rest := []) S (kX5_crossersOf l hg (by decide) ho) (cwV 1 S.2.2.2.2 (zgV wm_X6_173 oX5_crossersOf) rfl rfl rfl hX5_crossersOf ⟨Nat.le_of_ble_eq_true rfl, Nat.le_of_ble_eq_true rfl⟩) ⟨zPc_blind, z_recv hK hR (by decide) rfl rfl, z_pre hK hR⟩ rfl rfl hl.1 rfl (lv_room (Nat.le_of_ble_eq_true rfl)) dX6_aboutString_76 ⟨Nat.zero_le _, Nat.zero_le _⟩) (fun r30 M29 H locs hR hS hF => ?_)
    exact z_iret S hr hlk hR hS hF dX6_aboutString_79
  · replace hF := z_ct hF hc23
    refine lv_iconst (v := 0) S.1 S.2.1 dX6_aboutString_11 (by decide) ?_
    exact z_iret S hr hlk hR hS hF dX6_aboutString_12
theorem hX6_kite : yX6_kite.cls = RX6 ∧ yX6_kite.cls ≠ "java/lang/invoke/MethodHandle" ∧ yX6_kite.cls ≠ "java/lang/invoke/VarHandle" ∧ (parseMethodDescriptor yX6_kite.desc).map (fun d => d.parameters.length) = some 2 := by decide +kernel
theorem oX6_kite : Cond.instanceMethod yX6_kite ∈ zT ∧ Cond.selects RX6 yX6_kite yX6_kite ∈ zT ∧ Cond.initialized RX6 ∈ zT ∧ Cond.code yX6_kite cX6_kite 3 (some .int) ∈ zT := ⟨wv_X6_kite, we_X6_kite, wi_X6, wk_X6_kite⟩
set_option maxRecDepth 100000 in
set_option maxHeartbeats 4000000 in
theorem kX6_kite (l : Launch) {g : zGeo} {z : Nat} (hg : zAd g z) {M M' : zM} {v1 : Int32} {v2 : Int32} {r : Int32} (hF : fX6_kite M v1 v2 = some (r, M')) : Met l yX6_kite [.code yX6_kite cX6_kite 3 (some .int)] { frames := 5, cells := 0, slots := 0, locals := 112 } (zPc g M [.ref (g.1 0 0), .int v1, .int v2]) (zQi g z r M') 0 0 (zS z) := by
  refine z_enter (cc := cX6_kite) (maxL := 3) (ret := (some .int)) (by decide) rfl (Nat.le_of_ble_eq_true rfl) ?_
  intro p e s m below meth c S hr hlk hK hR hS ls hl
  have S : CallFix p m c cX6_kite 3 s _ zT RX6 := S
  have hl : lv_has ls 3 [(0, .ref (g.1 0 0)), (1, .int v1), (2, .int v2)] := hl
  unfold fX6_kite at hF
  refine lv_aload_n S.1 S.2.1 dX6_kite_0 rfl (lv_at hl 0 rfl) ?_
  refine z_get (k := 0) (i := 0) (f := 0) (v := .ref (g.1 1 0)) S hK hR (by decide) rfl rfl (by decide) wf_X6_10 rfl dX6_kite_1 ?_
  refine lv_iload_n S.1 S.2.1 dX6_kite_4 rfl (lv_at hl 1 rfl) ?_
  refine z_goi hS hF (fun _ _ ho => va_runV (C := RX2) (n := 1) (As := [.int v1]) (rest := []) S (kX2_has l hg (by decide) ho) (cwV 1 S.2.2.2.2 (zgV wm_X6_80 oX2_has) rfl rfl rfl hX2_has ⟨Nat.le_of_ble_eq_true rfl, Nat.le_of_ble_eq_true rfl⟩) ⟨zPc_blind, z_recv hK hR (by decide) rfl rfl, z_pre hK hR⟩ rfl rfl hl.1 rfl (lv_room (Nat.le_of_ble_eq_true rfl)) dX6_kite_5 ⟨Nat.zero_le _, Nat.zero_le _⟩) (fun r22 M21 H locs hR hS hF => ?_)
  refine lv_if_ne (tgt := 13) S.1 S.2.1 dX6_kite_8 (by decide) (fun hc23 => ?_) (fun hc23 => ?_)
  · replace hF := z_cf hF hc23
    refine lv_iload_n S.1 S.2.1 dX6_kite_13 rfl (lv_at hl 2 rfl) ?_
    refine lv_iconst (v := 0) S.1 S.2.1 dX6_kite_14 (by decide) ?_
    refine lv_bipush (v := 11) S.1 S.2.1 dX6_kite_15 (by decide) ?_
    refine z_goi hS hF (fun _ _ ho => va_runS (n := 3) (As := [.int v2, .int 0, .int 11]) (rest := []) S (kX6_isWithin l hg ho) (va_cwS 3 S.2.2.2.2 (zgS wm_X6_57 oX6_isWithin) rfl rfl rfl hX6_isWithin.2 ⟨Nat.le_of_ble_eq_true rfl, Nat.le_of_ble_eq_true rfl⟩) ⟨zPc_blind, z_pre hK hR⟩ rfl rfl hl.1 rfl (lv_room (Nat.le_of_ble_eq_true rfl)) dX6_kite_17 ⟨Nat.zero_le _, Nat.zero_le _⟩) (fun r25 M24 H locs hR hS hF => ?_)
    refine lv_if_ne (tgt := 26) S.1 S.2.1 dX6_kite_20 (by decide) (fun hc26 => ?_) (fun hc26 => ?_)
    · replace hF := z_cf hF hc26
      refine lv_iload_n S.1 S.2.1 dX6_kite_26 rfl (lv_at hl 2 rfl) ?_
      refine lv_bipush (v := 9) S.1 S.2.1 dX6_kite_27 (by decide) ?_
      refine lv_icmp_ge (tgt := 41) S.1 S.2.1 dX6_kite_29 (by decide) (fun hc27 => ?_) (fun hc27 => ?_)
      · replace hF := z_ct hF hc27
        refine lv_aload_n S.1 S.2.1 dX6_kite_41 rfl (lv_at hl 0 rfl) ?_
        refine lv_iload_n S.1 S.2.1 dX6_kite_42 rfl (lv_at hl 1 rfl) ?_
        refine lv_iload_n S.1 S.2.1 dX6_kite_43 rfl (lv_at hl 2 rfl) ?_
        refine z_goi hS hF (fun _ _ ho => va_runV (C := RX6) (n := 2) (As := [.int v1, .int v2]) (rest := []) S (kX6_aboutString l hg ho) (cwV 2 S.2.2.2.2 (zgV wm_X6_146 oX6_aboutString) rfl rfl rfl hX6_aboutString ⟨Nat.le_of_ble_eq_true rfl, Nat.le_of_ble_eq_true rfl⟩) ⟨zPc_blind, z_recv hK hR (by decide) rfl rfl, z_pre hK hR⟩ rfl rfl hl.1 rfl (lv_room (Nat.le_of_ble_eq_true rfl)) dX6_kite_44 ⟨Nat.zero_le _, Nat.zero_le _⟩) (fun r29 M28 H locs hR hS hF => ?_)
        exact z_iret S hr hlk hR hS hF dX6_kite_47
      · replace hF := z_cf hF hc27
        refine lv_aload_n S.1 S.2.1 dX6_kite_32 rfl (lv_at hl 0 rfl) ?_
        refine lv_iload_n S.1 S.2.1 dX6_kite_33 rfl (lv_at hl 1 rfl) ?_
        refine lv_iload_n S.1 S.2.1 dX6_kite_34 rfl (lv_at hl 2 rfl) ?_
        refine z_goi hS hF (fun _ _ ho => va_runV (C := RX6) (n := 2) (As := [.int v1, .int v2]) (rest := []) S (kX6_aboutKite l hg ho) (cwV 2 S.2.2.2.2 (zgV wm_X6_143 oX6_aboutKite) rfl rfl rfl hX6_aboutKite ⟨Nat.le_of_ble_eq_true rfl, Nat.le_of_ble_eq_true rfl⟩) ⟨zPc_blind, z_recv hK hR (by decide) rfl rfl, z_pre hK hR⟩ rfl rfl hl.1 rfl (lv_room (Nat.le_of_ble_eq_true rfl)) dX6_kite_35 ⟨Nat.zero_le _, Nat.zero_le _⟩) (fun r31 M30 H locs hR hS hF => ?_)
        refine lv_goto (tgt := 47) S.1 S.2.1 dX6_kite_38 (by decide) ?_
        exact z_iret S hr hlk hR hS hF dX6_kite_47
    · replace hF := z_ct hF hc26
      refine lv_bipush (v := (-2)) S.1 S.2.1 dX6_kite_23 (by decide) ?_
      exact z_iret S hr hlk hR hS hF dX6_kite_25
  · replace hF := z_ct hF hc23
    refine lv_iconst (v := (-1)) S.1 S.2.1 dX6_kite_11 (by decide) ?_
    exact z_iret S hr hlk hR hS hF dX6_kite_12
theorem hX6_wear : yX6_wear.cls = RX6 ∧ yX6_wear.cls ≠ "java/lang/invoke/MethodHandle" ∧ yX6_wear.cls ≠ "java/lang/invoke/VarHandle" ∧ (parseMethodDescriptor yX6_wear.desc).map (fun d => d.parameters.length) = some 2 := by decide +kernel
theorem oX6_wear : Cond.instanceMethod yX6_wear ∈ zT ∧ Cond.selects RX6 yX6_wear yX6_wear ∈ zT ∧ Cond.initialized RX6 ∈ zT ∧ Cond.code yX6_wear cX6_wear 3 (some .int) ∈ zT := ⟨wv_X6_wear, we_X6_wear, wi_X6, wk_X6_wear⟩
set_option maxRecDepth 100000 in
set_option maxHeartbeats 4000000 in
theorem kX6_wear (l : Launch) {g : zGeo} {z : Nat} (hg : zAd g z) {M M' : zM} {v1 : Int32} {v2 : Int32} {r : Int32} (hF : fX6_wear M v1 v2 = some (r, M')) : Met l yX6_wear [.code yX6_wear cX6_wear 3 (some .int)] { frames := 3, cells := 0, slots := 0, locals := 66 } (zPc g M [.ref (g.1 0 0), .int v1, .int v2]) (zQi g z r M') 0 0 (zS z) := by
  refine z_enter (cc := cX6_wear) (maxL := 3) (ret := (some .int)) (by decide) rfl (Nat.le_of_ble_eq_true rfl) ?_
  intro p e s m below meth c S hr hlk hK hR hS ls hl
  have S : CallFix p m c cX6_wear 3 s _ zT RX6 := S
  have hl : lv_has ls 3 [(0, .ref (g.1 0 0)), (1, .int v1), (2, .int v2)] := hl
  unfold fX6_wear at hF
  refine lv_aload_n S.1 S.2.1 dX6_wear_0 rfl (lv_at hl 0 rfl) ?_
  refine z_get (k := 0) (i := 0) (f := 0) (v := .ref (g.1 1 0)) S hK hR (by decide) rfl rfl (by decide) wf_X6_10 rfl dX6_wear_1 ?_
  refine lv_iload_n S.1 S.2.1 dX6_wear_4 rfl (lv_at hl 1 rfl) ?_
  refine z_goi hS hF (fun _ _ ho => va_runV (C := RX2) (n := 1) (As := [.int v1]) (rest := []) S (kX2_has l hg (by decide) ho) (cwV 1 S.2.2.2.2 (zgV wm_X6_80 oX2_has) rfl rfl rfl hX2_has ⟨Nat.le_of_ble_eq_true rfl, Nat.le_of_ble_eq_true rfl⟩) ⟨zPc_blind, z_recv hK hR (by decide) rfl rfl, z_pre hK hR⟩ rfl rfl hl.1 rfl (lv_room (Nat.le_of_ble_eq_true rfl)) dX6_wear_5 ⟨Nat.zero_le _, Nat.zero_le _⟩) (fun r22 M21 H locs hR hS hF => ?_)
  refine lv_if_eq (tgt := 21) S.1 S.2.1 dX6_wear_8 (by decide) (fun hc23 => ?_) (fun hc23 => ?_)
  · replace hF := z_ct hF hc23
    refine lv_iconst (v := (-1)) S.1 S.2.1 dX6_wear_21 (by decide) ?_
    exact z_iret S hr hlk hR hS hF dX6_wear_22
  · replace hF := z_cf hF hc23
    refine lv_iload_n S.1 S.2.1 dX6_wear_11 rfl (lv_at hl 2 rfl) ?_
    refine lv_iconst (v := 0) S.1 S.2.1 dX6_wear_12 (by decide) ?_
    refine lv_bipush (v := 31) S.1 S.2.1 dX6_wear_13 (by decide) ?_
    refine z_goi hS hF (fun _ _ ho => va_runS (n := 3) (As := [.int v2, .int 0, .int 31]) (rest := []) S (kX6_isWithin l hg ho) (va_cwS 3 S.2.2.2.2 (zgS wm_X6_57 oX6_isWithin) rfl rfl rfl hX6_isWithin.2 ⟨Nat.le_of_ble_eq_true rfl, Nat.le_of_ble_eq_true rfl⟩) ⟨zPc_blind, z_pre hK hR⟩ rfl rfl hl.1 rfl (lv_room (Nat.le_of_ble_eq_true rfl)) dX6_wear_15 ⟨Nat.zero_le _, Nat.zero_le _⟩) (fun r25 M24 H locs hR hS hF => ?_)
    refine lv_if_ne (tgt := 23) S.1 S.2.1 dX6_wear_18 (by decide) (fun hc26 => ?_) (fun hc26 => ?_)
    · replace hF := z_cf hF hc26
      refine lv_aload_n S.1 S.2.1 dX6_wear_23 rfl (lv_at hl 0 rfl) ?_
      refine z_get (k := 0) (i := 0) (f := 0) (v := .ref (g.1 1 0)) S hK hR (by decide) rfl rfl (by decide) wf_X6_10 rfl dX6_wear_24 ?_
      refine lv_iload_n S.1 S.2.1 dX6_wear_27 rfl (lv_at hl 1 rfl) ?_
      refine z_goi hS hF (fun _ _ ho => va_runV (C := RX2) (n := 1) (As := [.int v1]) (rest := []) S (kX2_isFlying l hg (by decide) ho) (cwV 1 S.2.2.2.2 (zgV wm_X6_84 oX2_isFlying) rfl rfl rfl hX2_isFlying ⟨Nat.le_of_ble_eq_true rfl, Nat.le_of_ble_eq_true rfl⟩) ⟨zPc_blind, z_recv hK hR (by decide) rfl rfl, z_pre hK hR⟩ rfl rfl hl.1 rfl (lv_room (Nat.le_of_ble_eq_true rfl)) dX6_wear_28 ⟨Nat.zero_le _, Nat.zero_le _⟩) (fun r28 M27 H locs hR hS hF => ?_)
      refine lv_if_eq (tgt := 46) S.1 S.2.1 dX6_wear_31 (by decide) (fun hc29 => ?_) (fun hc29 => ?_)
      · replace hF := z_ct hF hc29
        refine lv_bipush (v := (-5)) S.1 S.2.1 dX6_wear_46 (by decide) ?_
        exact z_iret S hr hlk hR hS hF dX6_wear_48
      · replace hF := z_cf hF hc29
        refine lv_aload_n S.1 S.2.1 dX6_wear_34 rfl (lv_at hl 0 rfl) ?_
        refine z_get (k := 0) (i := 0) (f := 0) (v := .ref (g.1 1 0)) S hK hR (by decide) rfl rfl (by decide) wf_X6_10 rfl dX6_wear_35 ?_
        refine lv_iload_n S.1 S.2.1 dX6_wear_38 rfl (lv_at hl 1 rfl) ?_
        refine lv_iload_n S.1 S.2.1 dX6_wear_39 rfl (lv_at hl 2 rfl) ?_
        refine z_goi hS hF (fun _ _ ho => va_runV (C := RX2) (n := 2) (As := [.int v1, .int v2]) (rest := []) S (kX2_wearAt l hg (by decide) ho) (cwV 2 S.2.2.2.2 (zgV wm_X6_98 oX2_wearAt) rfl rfl rfl hX2_wearAt ⟨Nat.le_of_ble_eq_true rfl, Nat.le_of_ble_eq_true rfl⟩) ⟨zPc_blind, z_recv hK hR (by decide) rfl rfl, z_pre hK hR⟩ rfl rfl hl.1 rfl (lv_room (Nat.le_of_ble_eq_true rfl)) dX6_wear_40 ⟨Nat.zero_le _, Nat.zero_le _⟩) (fun r31 M30 H locs hR hS hF => ?_)
        refine lv_goto (tgt := 48) S.1 S.2.1 dX6_wear_43 (by decide) ?_
        exact z_iret S hr hlk hR hS hF dX6_wear_48
    · replace hF := z_ct hF hc26
      refine lv_iconst (v := (-1)) S.1 S.2.1 dX6_wear_21 (by decide) ?_
      exact z_iret S hr hlk hR hS hF dX6_wear_22
theorem hX6_aboutCrossing : yX6_aboutCrossing.cls = RX6 ∧ yX6_aboutCrossing.cls ≠ "java/lang/invoke/MethodHandle" ∧ yX6_aboutCrossing.cls ≠ "java/lang/invoke/VarHandle" ∧ (parseMethodDescriptor yX6_aboutCrossing.desc).map (fun d => d.parameters.length) = some 3 := by decide +kernel
theorem oX6_aboutCrossing : Cond.instanceMethod yX6_aboutCrossing ∈ zT ∧ Cond.selects RX6 yX6_aboutCrossing yX6_aboutCrossing ∈ zT ∧ Cond.initialized RX6 ∈ zT ∧ Cond.code yX6_aboutCrossing cX6_aboutCrossing 5 (some .int) ∈ zT := ⟨wv_X6_aboutCrossing, we_X6_aboutCrossing, wi_X6, wk_X6_aboutCrossing⟩
set_option maxRecDepth 100000 in
set_option maxHeartbeats 4000000 in
theorem kX6_aboutCrossing (l : Launch) {g : zGeo} {z : Nat} (hg : zAd g z) {M M' : zM} {v1 : Int32} {v2 : Int32} {v3 : Int32} {r : Int32} (hF : fX6_aboutCrossing M v1 v2 v3 = some (r, M')) : Met l yX6_aboutCrossing [.code yX6_aboutCrossing cX6_aboutCrossing 5 (some .int)] { frames := 3, cells := 0, slots := 0, locals := 67 } (zPc g M [.ref (g.1 0 0), .int v1, .int v2, .int v3]) (zQi g z r M') 0 0 (zS z) := by
  refine z_enter (cc := cX6_aboutCrossing) (maxL := 5) (ret := (some .int)) (by decide) rfl (Nat.le_of_ble_eq_true rfl) ?_
  intro p e s m below meth c S hr hlk hK hR hS ls hl
  have S : CallFix p m c cX6_aboutCrossing 5 s _ zT RX6 := S
  have hl : lv_has ls 5 [(0, .ref (g.1 0 0)), (1, .int v1), (2, .int v2), (3, .int v3)] := hl
  unfold fX6_aboutCrossing at hF
  refine lv_aload_n S.1 S.2.1 dX6_aboutCrossing_0 rfl (lv_at hl 0 rfl) ?_
  refine z_get (k := 0) (i := 0) (f := 2) (v := .ref (g.1 15 0)) S hK hR (by decide) rfl rfl (by decide) wf_X6_22 rfl dX6_aboutCrossing_1 ?_
  refine lv_iload_n S.1 S.2.1 dX6_aboutCrossing_4 rfl (lv_at hl 1 rfl) ?_
  refine lv_iload_n S.1 S.2.1 dX6_aboutCrossing_5 rfl (lv_at hl 2 rfl) ?_
  refine z_goi hS hF (fun _ _ ho => va_runV (C := RX5) (n := 2) (As := [.int v1, .int v2]) (rest := []) S (kX5_cross l hg (by decide) ho) (cwV 2 S.2.2.2.2 (zgV wm_X6_179 oX5_cross) rfl rfl rfl hX5_cross ⟨Nat.le_of_ble_eq_true rfl, Nat.le_of_ble_eq_true rfl⟩) ⟨zPc_blind, z_recv hK hR (by decide) rfl rfl, z_pre hK hR⟩ rfl rfl hl.1 rfl (lv_room (Nat.le_of_ble_eq_true rfl)) dX6_aboutCrossing_6 ⟨Nat.zero_le _, Nat.zero_le _⟩) (fun r22 M21 H locs hR hS hF => ?_)
  refine lv_istore (lv' := [(4, .int r22), (0, .ref (g.1 0 0)), (1, .int v1), (2, .int v2), (3, .int v3)]) S.1 S.2.1 dX6_aboutCrossing_9 hl (by decide) rfl (fun ls hl => ?_)
  refine lv_iload_n S.1 S.2.1 dX6_aboutCrossing_11 rfl (lv_at hl 4 rfl) ?_
  by_cases hc0 : v3 = 0
  · replace hF := z_ct hF hc0
    refine lv_tableIn (tgt := 48) S.1 S.2.1 dX6_aboutCrossing_12 (by rw [hc0]; decide) (by rw [hc0]; decide) (by rw [hc0]; rfl) (by decide) ?_
    refine lv_iload S.1 S.2.1 dX6_aboutCrossing_48 (lv_at hl 0 rfl) ?_
    refine lv_if_eq (tgt := 57) S.1 S.2.1 dX6_aboutCrossing_50 (by decide) (fun hc23 => ?_) (fun hc23 => ?_)
    · replace hF := z_ct hF hc23
      refine lv_iconst (v := 0) S.1 S.2.1 dX6_aboutCrossing_57 (by decide) ?_
      exact z_iret S hr hlk hR hS hF dX6_aboutCrossing_58
    · replace hF := z_cf hF hc23
      refine lv_iconst (v := 1) S.1 S.2.1 dX6_aboutCrossing_53 (by decide) ?_
      refine lv_goto (tgt := 58) S.1 S.2.1 dX6_aboutCrossing_54 (by decide) ?_
      exact z_iret S hr hlk hR hS hF dX6_aboutCrossing_58
  replace hF := z_cf hF hc0
  by_cases hc1 : v3 = 1
  · replace hF := z_ct hF hc1
    refine lv_tableIn (tgt := 59) S.1 S.2.1 dX6_aboutCrossing_12 (by rw [hc1]; decide) (by rw [hc1]; decide) (by rw [hc1]; rfl) (by decide) ?_
    refine lv_aload_n S.1 S.2.1 dX6_aboutCrossing_59 rfl (lv_at hl 1 rfl) ?_
    refine z_get (k := 0) (i := 0) (f := 2) (v := .ref (g.1 15 0)) S hK hR (by decide) rfl rfl (by decide) wf_X6_22 rfl dX6_aboutCrossing_60 ?_
    refine lv_iload_n S.1 S.2.1 dX6_aboutCrossing_63 rfl (lv_at hl 2 rfl) ?_
    refine lv_iload_n S.1 S.2.1 dX6_aboutCrossing_64 rfl (lv_at hl 3 rfl) ?_
    refine z_goi hS hF (fun _ _ ho => va_runV (C := RX5) (n := 2) (As := [.int v1, .int v2]) (rest := []) S (kX5_placeOn l hg (by decide) ho) (cwV 2 S.2.2.2.2 (zgV wm_X6_183 oX5_placeOn) rfl rfl rfl hX5_placeOn ⟨Nat.le_of_ble_eq_true rfl, Nat.le_of_ble_eq_true rfl⟩) ⟨zPc_blind, z_recv hK hR (by decide) rfl rfl, z_pre hK hR⟩ rfl rfl hl.1 rfl (lv_room (Nat.le_of_ble_eq_true rfl)) dX6_aboutCrossing_65 ⟨Nat.zero_le _, Nat.zero_le _⟩) (fun r25 M24 H locs hR hS hF => ?_)
    exact z_iret S hr hlk hR hS hF dX6_aboutCrossing_68
  replace hF := z_cf hF hc1
  by_cases hc2 : v3 = 2
  · replace hF := z_ct hF hc2
    refine lv_tableIn (tgt := 69) S.1 S.2.1 dX6_aboutCrossing_12 (by rw [hc2]; decide) (by rw [hc2]; decide) (by rw [hc2]; rfl) (by decide) ?_
    refine lv_aload_n S.1 S.2.1 dX6_aboutCrossing_69 rfl (lv_at hl 1 rfl) ?_
    refine z_get (k := 0) (i := 0) (f := 2) (v := .ref (g.1 15 0)) S hK hR (by decide) rfl rfl (by decide) wf_X6_22 rfl dX6_aboutCrossing_70 ?_
    refine lv_iload_n S.1 S.2.1 dX6_aboutCrossing_73 rfl (lv_at hl 3 rfl) ?_
    refine lv_iload_n S.1 S.2.1 dX6_aboutCrossing_74 rfl (lv_at hl 2 rfl) ?_
    refine z_goi hS hF (fun _ _ ho => va_runV (C := RX5) (n := 2) (As := [.int v2, .int v1]) (rest := []) S (kX5_placeOn l hg (by decide) ho) (cwV 2 S.2.2.2.2 (zgV wm_X6_183 oX5_placeOn) rfl rfl rfl hX5_placeOn ⟨Nat.le_of_ble_eq_true rfl, Nat.le_of_ble_eq_true rfl⟩) ⟨zPc_blind, z_recv hK hR (by decide) rfl rfl, z_pre hK hR⟩ rfl rfl hl.1 rfl (lv_room (Nat.le_of_ble_eq_true rfl)) dX6_aboutCrossing_75 ⟨Nat.zero_le _, Nat.zero_le _⟩) (fun r27 M26 H locs hR hS hF => ?_)
    exact z_iret S hr hlk hR hS hF dX6_aboutCrossing_78
  replace hF := z_cf hF hc2
  by_cases hc3 : v3 = 3
  · replace hF := z_ct hF hc3
    refine lv_tableIn (tgt := 79) S.1 S.2.1 dX6_aboutCrossing_12 (by rw [hc3]; decide) (by rw [hc3]; decide) (by rw [hc3]; rfl) (by decide) ?_
    refine lv_iload S.1 S.2.1 dX6_aboutCrossing_79 (lv_at hl 0 rfl) ?_
    refine lv_if_ne (tgt := 89) S.1 S.2.1 dX6_aboutCrossing_81 (by decide) (fun hc28 => ?_) (fun hc28 => ?_)
    · replace hF := z_cf hF hc28
      refine lv_aload_n S.1 S.2.1 dX6_aboutCrossing_89 rfl (lv_at hl 1 rfl) ?_
      refine z_get (k := 0) (i := 0) (f := 2) (v := .ref (g.1 15 0)) S hK hR (by decide) rfl rfl (by decide) wf_X6_22 rfl dX6_aboutCrossing_90 ?_
      refine lv_iload_n S.1 S.2.1 dX6_aboutCrossing_93 rfl (lv_at hl 2 rfl) ?_
      refine lv_iload_n S.1 S.2.1 dX6_aboutCrossing_94 rfl (lv_at hl 3 rfl) ?_
      refine z_goi hS hF (fun _ _ ho => va_runV (C := RX5) (n := 2) (As := [.int v1, .int v2]) (rest := []) S (kX5_isSteep l hg (by decide) ho) (cwV 2 S.2.2.2.2 (zgV wm_X6_186 oX5_isSteep) rfl rfl rfl hX5_isSteep ⟨Nat.le_of_ble_eq_true rfl, Nat.le_of_ble_eq_true rfl⟩) ⟨zPc_blind, z_recv hK hR (by decide) rfl rfl, z_pre hK hR⟩ rfl rfl hl.1 rfl (lv_room (Nat.le_of_ble_eq_true rfl)) dX6_aboutCrossing_95 ⟨Nat.zero_le _, Nat.zero_le _⟩) (fun r30 M29 H locs hR hS hF => ?_)
      refine lv_if_eq (tgt := 105) S.1 S.2.1 dX6_aboutCrossing_98 (by decide) (fun hc31 => ?_) (fun hc31 => ?_)
      · replace hF := z_ct hF hc31
        refine lv_iconst (v := 0) S.1 S.2.1 dX6_aboutCrossing_105 (by decide) ?_
        exact z_iret S hr hlk hR hS hF dX6_aboutCrossing_106
      · replace hF := z_cf hF hc31
        refine lv_iconst (v := 1) S.1 S.2.1 dX6_aboutCrossing_101 (by decide) ?_
        refine lv_goto (tgt := 106) S.1 S.2.1 dX6_aboutCrossing_102 (by decide) ?_
        exact z_iret S hr hlk hR hS hF dX6_aboutCrossing_106
    · replace hF := z_ct hF hc28
      refine lv_bipush (v := (-6)) S.1 S.2.1 dX6_aboutCrossing_84 (by decide) ?_
      refine lv_goto (tgt := 106) S.1 S.2.1 dX6_aboutCrossing_86 (by decide) ?_
      exact z_iret S hr hlk hR hS hF dX6_aboutCrossing_106
  replace hF := z_cf hF hc3
  by_cases hc4 : v3 = 4
  · replace hF := z_ct hF hc4
    refine lv_tableIn (tgt := 107) S.1 S.2.1 dX6_aboutCrossing_12 (by rw [hc4]; decide) (by rw [hc4]; decide) (by rw [hc4]; rfl) (by decide) ?_
    refine lv_aload_n S.1 S.2.1 dX6_aboutCrossing_107 rfl (lv_at hl 1 rfl) ?_
    refine z_get (k := 0) (i := 0) (f := 0) (v := .ref (g.1 1 0)) S hK hR (by decide) rfl rfl (by decide) wf_X6_10 rfl dX6_aboutCrossing_108 ?_
    refine lv_iload_n S.1 S.2.1 dX6_aboutCrossing_111 rfl (lv_at hl 2 rfl) ?_
    refine lv_iload_n S.1 S.2.1 dX6_aboutCrossing_112 rfl (lv_at hl 3 rfl) ?_
    refine z_goi hS hF (fun _ _ ho => va_runV (C := RX2) (n := 2) (As := [.int v1, .int v2]) (rest := []) S (kX2_sliding l hg (by decide) ho) (cwV 2 S.2.2.2.2 (zgV wm_X6_189 oX2_sliding) rfl rfl rfl hX2_sliding ⟨Nat.le_of_ble_eq_true rfl, Nat.le_of_ble_eq_true rfl⟩) ⟨zPc_blind, z_recv hK hR (by decide) rfl rfl, z_pre hK hR⟩ rfl rfl hl.1 rfl (lv_room (Nat.le_of_ble_eq_true rfl)) dX6_aboutCrossing_113 ⟨Nat.zero_le _, Nat.zero_le _⟩) (fun r33 M32 H locs hR hS hF => ?_)
    exact z_iret S hr hlk hR hS hF dX6_aboutCrossing_116
  replace hF := z_cf hF hc4
  refine lv_tableOut (tgt := 117) S.1 S.2.1 dX6_aboutCrossing_12 (by have hn0 := z_ne hc0 (n := 0) rfl; have hn1 := z_ne hc1 (n := 1) rfl; have hn2 := z_ne hc2 (n := 2) rfl; have hn3 := z_ne hc3 (n := 3) rfl; have hn4 := z_ne hc4 (n := 4) rfl; omega) (by decide) ?_
  refine lv_iload S.1 S.2.1 dX6_aboutCrossing_117 (lv_at hl 0 rfl) ?_
  refine lv_if_eq (tgt := 143) S.1 S.2.1 dX6_aboutCrossing_119 (by decide) (fun hc34 => ?_) (fun hc34 => ?_)
  · replace hF := z_ct hF hc34
    refine lv_iconst (v := 0) S.1 S.2.1 dX6_aboutCrossing_143 (by decide) ?_
    exact z_iret S hr hlk hR hS hF dX6_aboutCrossing_144
  · replace hF := z_cf hF hc34
    refine lv_aload_n S.1 S.2.1 dX6_aboutCrossing_122 rfl (lv_at hl 1 rfl) ?_
    refine z_get (k := 0) (i := 0) (f := 0) (v := .ref (g.1 1 0)) S hK hR (by decide) rfl rfl (by decide) wf_X6_10 rfl dX6_aboutCrossing_123 ?_
    refine lv_iload_n S.1 S.2.1 dX6_aboutCrossing_126 rfl (lv_at hl 2 rfl) ?_
    refine lv_iload_n S.1 S.2.1 dX6_aboutCrossing_127 rfl (lv_at hl 3 rfl) ?_
    refine lv_aload_n S.1 S.2.1 dX6_aboutCrossing_128 rfl (lv_at hl 1 rfl) ?_
    refine z_get (k := 0) (i := 0) (f := 2) (v := .ref (g.1 15 0)) S hK hR (by decide) rfl rfl (by decide) wf_X6_22 rfl dX6_aboutCrossing_129 ?_
    refine lv_iload_n S.1 S.2.1 dX6_aboutCrossing_132 rfl (lv_at hl 2 rfl) ?_
    refine lv_iload_n S.1 S.2.1 dX6_aboutCrossing_133 rfl (lv_at hl 3 rfl) ?_
    refine z_goi hS hF (fun _ _ ho => va_runV (C := RX5) (n := 2) (As := [.int v1, .int v2]) (rest := [.int v2, .int v1, .ref (g.1 1 0)]) S (kX5_isSteep l hg (by decide) ho) (cwV 2 S.2.2.2.2 (zgV wm_X6_186 oX5_isSteep) rfl rfl rfl hX5_isSteep ⟨Nat.le_of_ble_eq_true rfl, Nat.le_of_ble_eq_true rfl⟩) ⟨zPc_blind, z_recv hK hR (by decide) rfl rfl, z_pre hK hR⟩ rfl rfl hl.1 rfl (lv_room (Nat.le_of_ble_eq_true rfl)) dX6_aboutCrossing_134 ⟨Nat.zero_le _, Nat.zero_le _⟩) (fun r36 M35 H locs hR hS hF => ?_)
    refine z_goi hS hF (fun _ _ ho => va_runV (C := RX2) (n := 3) (As := [.int v1, .int v2, .int r36]) (rest := []) S (kX2_rubbing l hg (by decide) ho) (cwV 3 S.2.2.2.2 (zgV wm_X6_192 oX2_rubbing) rfl rfl rfl hX2_rubbing ⟨Nat.le_of_ble_eq_true rfl, Nat.le_of_ble_eq_true rfl⟩) ⟨zPc_blind, z_recv hK hR (by decide) rfl rfl, z_pre hK hR⟩ rfl rfl hl.1 rfl (lv_room (Nat.le_of_ble_eq_true rfl)) dX6_aboutCrossing_137 ⟨Nat.zero_le _, Nat.zero_le _⟩) (fun r38 M37 H locs hR hS hF => ?_)
    refine lv_goto (tgt := 144) S.1 S.2.1 dX6_aboutCrossing_140 (by decide) ?_
    exact z_iret S hr hlk hR hS hF dX6_aboutCrossing_144
theorem hX6_crossing : yX6_crossing.cls = RX6 ∧ yX6_crossing.cls ≠ "java/lang/invoke/MethodHandle" ∧ yX6_crossing.cls ≠ "java/lang/invoke/VarHandle" ∧ (parseMethodDescriptor yX6_crossing.desc).map (fun d => d.parameters.length) = some 3 := by decide +kernel
theorem oX6_crossing : Cond.instanceMethod yX6_crossing ∈ zT ∧ Cond.selects RX6 yX6_crossing yX6_crossing ∈ zT ∧ Cond.initialized RX6 ∈ zT ∧ Cond.code yX6_crossing cX6_crossing 4 (some .int) ∈ zT := ⟨wv_X6_crossing, we_X6_crossing, wi_X6, wk_X6_crossing⟩
set_option maxRecDepth 100000 in
set_option maxHeartbeats 4000000 in
theorem kX6_crossing (l : Launch) {g : zGeo} {z : Nat} (hg : zAd g z) {M M' : zM} {v1 : Int32} {v2 : Int32} {v3 : Int32} {r : Int32} (hF : fX6_crossing M v1 v2 v3 = some (r, M')) : Met l yX6_crossing [.code yX6_crossing cX6_crossing 4 (some .int)] { frames := 4, cells := 0, slots := 0, locals := 91 } (zPc g M [.ref (g.1 0 0), .int v1, .int v2, .int v3]) (zQi g z r M') 0 0 (zS z) := by
  refine z_enter (cc := cX6_crossing) (maxL := 4) (ret := (some .int)) (by decide) rfl (Nat.le_of_ble_eq_true rfl) ?_
  intro p e s m below meth c S hr hlk hK hR hS ls hl
  have S : CallFix p m c cX6_crossing 4 s _ zT RX6 := S
  have hl : lv_has ls 4 [(0, .ref (g.1 0 0)), (1, .int v1), (2, .int v2), (3, .int v3)] := hl
  unfold fX6_crossing at hF
  refine lv_aload_n S.1 S.2.1 dX6_crossing_0 rfl (lv_at hl 0 rfl) ?_
  refine z_get (k := 0) (i := 0) (f := 0) (v := .ref (g.1 1 0)) S hK hR (by decide) rfl rfl (by decide) wf_X6_10 rfl dX6_crossing_1 ?_
  refine lv_iload_n S.1 S.2.1 dX6_crossing_4 rfl (lv_at hl 1 rfl) ?_
  refine z_goi hS hF (fun _ _ ho => va_runV (C := RX2) (n := 1) (As := [.int v1]) (rest := []) S (kX2_has l hg (by decide) ho) (cwV 1 S.2.2.2.2 (zgV wm_X6_80 oX2_has) rfl rfl rfl hX2_has ⟨Nat.le_of_ble_eq_true rfl, Nat.le_of_ble_eq_true rfl⟩) ⟨zPc_blind, z_recv hK hR (by decide) rfl rfl, z_pre hK hR⟩ rfl rfl hl.1 rfl (lv_room (Nat.le_of_ble_eq_true rfl)) dX6_crossing_5 ⟨Nat.zero_le _, Nat.zero_le _⟩) (fun r22 M21 H locs hR hS hF => ?_)
  refine lv_if_eq (tgt := 22) S.1 S.2.1 dX6_crossing_8 (by decide) (fun hc23 => ?_) (fun hc23 => ?_)
  · replace hF := z_ct hF hc23
    refine lv_iconst (v := (-1)) S.1 S.2.1 dX6_crossing_22 (by decide) ?_
    exact z_iret S hr hlk hR hS hF dX6_crossing_23
  · replace hF := z_cf hF hc23
    refine lv_aload_n S.1 S.2.1 dX6_crossing_11 rfl (lv_at hl 0 rfl) ?_
    refine z_get (k := 0) (i := 0) (f := 0) (v := .ref (g.1 1 0)) S hK hR (by decide) rfl rfl (by decide) wf_X6_10 rfl dX6_crossing_12 ?_
    refine lv_iload_n S.1 S.2.1 dX6_crossing_15 rfl (lv_at hl 2 rfl) ?_
    refine z_goi hS hF (fun _ _ ho => va_runV (C := RX2) (n := 1) (As := [.int v2]) (rest := []) S (kX2_has l hg (by decide) ho) (cwV 1 S.2.2.2.2 (zgV wm_X6_80 oX2_has) rfl rfl rfl hX2_has ⟨Nat.le_of_ble_eq_true rfl, Nat.le_of_ble_eq_true rfl⟩) ⟨zPc_blind, z_recv hK hR (by decide) rfl rfl, z_pre hK hR⟩ rfl rfl hl.1 rfl (lv_room (Nat.le_of_ble_eq_true rfl)) dX6_crossing_16 ⟨Nat.zero_le _, Nat.zero_le _⟩) (fun r25 M24 H locs hR hS hF => ?_)
    refine lv_if_ne (tgt := 24) S.1 S.2.1 dX6_crossing_19 (by decide) (fun hc26 => ?_) (fun hc26 => ?_)
    · replace hF := z_cf hF hc26
      refine lv_iload_n S.1 S.2.1 dX6_crossing_24 rfl (lv_at hl 1 rfl) ?_
      refine lv_iload_n S.1 S.2.1 dX6_crossing_25 rfl (lv_at hl 2 rfl) ?_
      refine lv_icmp_eq (tgt := 38) S.1 S.2.1 dX6_crossing_26 (by decide) (fun hc27 => ?_) (fun hc27 => ?_)
      · replace hF := z_ct hF hc27
        refine lv_bipush (v := (-2)) S.1 S.2.1 dX6_crossing_38 (by decide) ?_
        exact z_iret S hr hlk hR hS hF dX6_crossing_40
      · replace hF := z_cf hF hc27
        refine lv_iload_n S.1 S.2.1 dX6_crossing_29 rfl (lv_at hl 3 rfl) ?_
        refine lv_iconst (v := 0) S.1 S.2.1 dX6_crossing_30 (by decide) ?_
        refine lv_iconst (v := 5) S.1 S.2.1 dX6_crossing_31 (by decide) ?_
        refine z_goi hS hF (fun _ _ ho => va_runS (n := 3) (As := [.int v3, .int 0, .int 5]) (rest := []) S (kX6_isWithin l hg ho) (va_cwS 3 S.2.2.2.2 (zgS wm_X6_57 oX6_isWithin) rfl rfl rfl hX6_isWithin.2 ⟨Nat.le_of_ble_eq_true rfl, Nat.le_of_ble_eq_true rfl⟩) ⟨zPc_blind, z_pre hK hR⟩ rfl rfl hl.1 rfl (lv_room (Nat.le_of_ble_eq_true rfl)) dX6_crossing_32 ⟨Nat.zero_le _, Nat.zero_le _⟩) (fun r29 M28 H locs hR hS hF => ?_)
        refine lv_if_ne (tgt := 41) S.1 S.2.1 dX6_crossing_35 (by decide) (fun hc30 => ?_) (fun hc30 => ?_)
        · replace hF := z_cf hF hc30
          refine lv_aload_n S.1 S.2.1 dX6_crossing_41 rfl (lv_at hl 0 rfl) ?_
          refine z_get (k := 0) (i := 0) (f := 0) (v := .ref (g.1 1 0)) S hK hR (by decide) rfl rfl (by decide) wf_X6_10 rfl dX6_crossing_42 ?_
          refine lv_iload_n S.1 S.2.1 dX6_crossing_45 rfl (lv_at hl 1 rfl) ?_
          refine z_goi hS hF (fun _ _ ho => va_runV (C := RX2) (n := 1) (As := [.int v1]) (rest := []) S (kX2_isFlying l hg (by decide) ho) (cwV 1 S.2.2.2.2 (zgV wm_X6_84 oX2_isFlying) rfl rfl rfl hX2_isFlying ⟨Nat.le_of_ble_eq_true rfl, Nat.le_of_ble_eq_true rfl⟩) ⟨zPc_blind, z_recv hK hR (by decide) rfl rfl, z_pre hK hR⟩ rfl rfl hl.1 rfl (lv_room (Nat.le_of_ble_eq_true rfl)) dX6_crossing_46 ⟨Nat.zero_le _, Nat.zero_le _⟩) (fun r32 M31 H locs hR hS hF => ?_)
          refine lv_if_eq (tgt := 63) S.1 S.2.1 dX6_crossing_49 (by decide) (fun hc33 => ?_) (fun hc33 => ?_)
          · replace hF := z_ct hF hc33
            refine lv_bipush (v := (-5)) S.1 S.2.1 dX6_crossing_63 (by decide) ?_
            exact z_iret S hr hlk hR hS hF dX6_crossing_65
          · replace hF := z_cf hF hc33
            refine lv_aload_n S.1 S.2.1 dX6_crossing_52 rfl (lv_at hl 0 rfl) ?_
            refine z_get (k := 0) (i := 0) (f := 0) (v := .ref (g.1 1 0)) S hK hR (by decide) rfl rfl (by decide) wf_X6_10 rfl dX6_crossing_53 ?_
            refine lv_iload_n S.1 S.2.1 dX6_crossing_56 rfl (lv_at hl 2 rfl) ?_
            refine z_goi hS hF (fun _ _ ho => va_runV (C := RX2) (n := 1) (As := [.int v2]) (rest := []) S (kX2_isFlying l hg (by decide) ho) (cwV 1 S.2.2.2.2 (zgV wm_X6_84 oX2_isFlying) rfl rfl rfl hX2_isFlying ⟨Nat.le_of_ble_eq_true rfl, Nat.le_of_ble_eq_true rfl⟩) ⟨zPc_blind, z_recv hK hR (by decide) rfl rfl, z_pre hK hR⟩ rfl rfl hl.1 rfl (lv_room (Nat.le_of_ble_eq_true rfl)) dX6_crossing_57 ⟨Nat.zero_le _, Nat.zero_le _⟩) (fun r35 M34 H locs hR hS hF => ?_)
            refine lv_if_ne (tgt := 66) S.1 S.2.1 dX6_crossing_60 (by decide) (fun hc36 => ?_) (fun hc36 => ?_)
            · replace hF := z_cf hF hc36
              refine lv_aload_n S.1 S.2.1 dX6_crossing_66 rfl (lv_at hl 0 rfl) ?_
              refine z_get (k := 0) (i := 0) (f := 2) (v := .ref (g.1 15 0)) S hK hR (by decide) rfl rfl (by decide) wf_X6_22 rfl dX6_crossing_67 ?_
              refine lv_aload_n S.1 S.2.1 dX6_crossing_70 rfl (lv_at hl 0 rfl) ?_
              refine z_get (k := 0) (i := 0) (f := 0) (v := .ref (g.1 1 0)) S hK hR (by decide) rfl rfl (by decide) wf_X6_10 rfl dX6_crossing_71 ?_
              refine z_gov hS hF (fun _ _ ho => va_runV (C := RX5) (n := 1) (As := [.ref (g.1 1 0)]) (rest := []) S (kX5_measure l hg (by decide) (by decide) ho) (cwV 1 S.2.2.2.2 (zgV wm_X6_170 oX5_measure) rfl rfl rfl hX5_measure ⟨Nat.le_of_ble_eq_true rfl, Nat.le_of_ble_eq_true rfl⟩) ⟨zPc_blind, z_recv hK hR (by decide) rfl rfl, z_pre hK hR⟩ rfl rfl hl.1 rfl (lv_room (Nat.le_of_ble_eq_true rfl)) dX6_crossing_74 ⟨Nat.zero_le _, Nat.zero_le _⟩) (fun M37 H locs hR hS hF => ?_)
              refine lv_aload_n S.1 S.2.1 dX6_crossing_77 rfl (lv_at hl 0 rfl) ?_
              refine lv_iload_n S.1 S.2.1 dX6_crossing_78 rfl (lv_at hl 1 rfl) ?_
              refine lv_iload_n S.1 S.2.1 dX6_crossing_79 rfl (lv_at hl 2 rfl) ?_
              refine lv_iload_n S.1 S.2.1 dX6_crossing_80 rfl (lv_at hl 3 rfl) ?_
              refine z_goi hS hF (fun _ _ ho => va_runV (C := RX6) (n := 3) (As := [.int v1, .int v2, .int v3]) (rest := []) S (kX6_aboutCrossing l hg ho) (cwV 3 S.2.2.2.2 (zgV wm_X6_176 oX6_aboutCrossing) rfl rfl rfl hX6_aboutCrossing ⟨Nat.le_of_ble_eq_true rfl, Nat.le_of_ble_eq_true rfl⟩) ⟨zPc_blind, z_recv hK hR (by decide) rfl rfl, z_pre hK hR⟩ rfl rfl hl.1 rfl (lv_room (Nat.le_of_ble_eq_true rfl)) dX6_crossing_81 ⟨Nat.zero_le _, Nat.zero_le _⟩) (fun r39 M38 H locs hR hS hF => ?_)
              exact z_iret S hr hlk hR hS hF dX6_crossing_84
            · replace hF := z_ct hF hc36
              refine lv_bipush (v := (-5)) S.1 S.2.1 dX6_crossing_63 (by decide) ?_
              exact z_iret S hr hlk hR hS hF dX6_crossing_65
        · replace hF := z_ct hF hc30
          refine lv_bipush (v := (-2)) S.1 S.2.1 dX6_crossing_38 (by decide) ?_
          exact z_iret S hr hlk hR hS hF dX6_crossing_40
    · replace hF := z_ct hF hc26
      refine lv_iconst (v := (-1)) S.1 S.2.1 dX6_crossing_22 (by decide) ?_
      exact z_iret S hr hlk hR hS hF dX6_crossing_23
theorem hX6_count : yX6_count.cls = RX6 ∧ yX6_count.cls ≠ "java/lang/invoke/MethodHandle" ∧ yX6_count.cls ≠ "java/lang/invoke/VarHandle" ∧ (parseMethodDescriptor yX6_count.desc).map (fun d => d.parameters.length) = some 1 := by decide +kernel
theorem oX6_count : Cond.instanceMethod yX6_count ∈ zT ∧ Cond.selects RX6 yX6_count yX6_count ∈ zT ∧ Cond.initialized RX6 ∈ zT ∧ Cond.code yX6_count cX6_count 2 (some .int) ∈ zT := ⟨wv_X6_count, we_X6_count, wi_X6, wk_X6_count⟩
set_option maxRecDepth 100000 in
set_option maxHeartbeats 4000000 in
theorem kX6_count (l : Launch) {g : zGeo} {z : Nat} (hg : zAd g z) {M M' : zM} {v1 : Int32} {r : Int32} (hF : fX6_count M v1 = some (r, M')) : Met l yX6_count [.code yX6_count cX6_count 2 (some .int)] { frames := 3, cells := 0, slots := 0, locals := 80 } (zPc g M [.ref (g.1 0 0), .int v1]) (zQi g z r M') 0 0 (zS z) := by
  refine z_enter (cc := cX6_count) (maxL := 2) (ret := (some .int)) (by decide) rfl (Nat.le_of_ble_eq_true rfl) ?_
  intro p e s m below meth c S hr hlk hK hR hS ls hl
  have S : CallFix p m c cX6_count 2 s _ zT RX6 := S
  have hl : lv_has ls 2 [(0, .ref (g.1 0 0)), (1, .int v1)] := hl
  unfold fX6_count at hF
  refine lv_iload_n S.1 S.2.1 dX6_count_0 rfl (lv_at hl 1 rfl) ?_
  by_cases hc0 : v1 = 0
  · replace hF := z_ct hF hc0
    refine lv_tableIn (tgt := 56) S.1 S.2.1 dX6_count_1 (by rw [hc0]; decide) (by rw [hc0]; decide) (by rw [hc0]; rfl) (by decide) ?_
    refine lv_aload_n S.1 S.2.1 dX6_count_56 rfl (lv_at hl 0 rfl) ?_
    refine z_get (k := 0) (i := 0) (f := 0) (v := .ref (g.1 1 0)) S hK hR (by decide) rfl rfl (by decide) wf_X6_10 rfl dX6_count_57 ?_
    refine z_get (k := 1) (i := 0) (f := 0) (v := .int (M 1 0 0)) S hK hR (by decide) rfl rfl (by decide) wf_X6_196 rfl dX6_count_60 ?_
    exact z_iret S hr hlk hR hS hF dX6_count_63
  replace hF := z_cf hF hc0
  by_cases hc1 : v1 = 1
  · replace hF := z_ct hF hc1
    refine lv_tableIn (tgt := 64) S.1 S.2.1 dX6_count_1 (by rw [hc1]; decide) (by rw [hc1]; decide) (by rw [hc1]; rfl) (by decide) ?_
    refine lv_aload_n S.1 S.2.1 dX6_count_64 rfl (lv_at hl 0 rfl) ?_
    refine z_get (k := 0) (i := 0) (f := 0) (v := .ref (g.1 1 0)) S hK hR (by decide) rfl rfl (by decide) wf_X6_10 rfl dX6_count_65 ?_
    refine z_goi hS hF (fun _ _ ho => va_runV (C := RX2) (n := 0) (As := []) (rest := []) S (kX2_flyingKites l hg (by decide) ho) (cwV 0 S.2.2.2.2 (zgV wm_X6_199 oX2_flyingKites) rfl rfl rfl hX2_flyingKites ⟨Nat.le_of_ble_eq_true rfl, Nat.le_of_ble_eq_true rfl⟩) ⟨zPc_blind, z_recv hK hR (by decide) rfl rfl, z_pre hK hR⟩ rfl rfl hl.1 rfl (lv_room (Nat.le_of_ble_eq_true rfl)) dX6_count_68 ⟨Nat.zero_le _, Nat.zero_le _⟩) (fun r22 M21 H locs hR hS hF => ?_)
    exact z_iret S hr hlk hR hS hF dX6_count_71
  replace hF := z_cf hF hc1
  by_cases hc2 : v1 = 2
  · replace hF := z_ct hF hc2
    refine lv_tableIn (tgt := 72) S.1 S.2.1 dX6_count_1 (by rw [hc2]; decide) (by rw [hc2]; decide) (by rw [hc2]; rfl) (by decide) ?_
    refine lv_aload_n S.1 S.2.1 dX6_count_72 rfl (lv_at hl 0 rfl) ?_
    refine z_get (k := 0) (i := 0) (f := 2) (v := .ref (g.1 15 0)) S hK hR (by decide) rfl rfl (by decide) wf_X6_22 rfl dX6_count_73 ?_
    refine lv_aload_n S.1 S.2.1 dX6_count_76 rfl (lv_at hl 0 rfl) ?_
    refine z_get (k := 0) (i := 0) (f := 0) (v := .ref (g.1 1 0)) S hK hR (by decide) rfl rfl (by decide) wf_X6_10 rfl dX6_count_77 ?_
    refine z_gov hS hF (fun _ _ ho => va_runV (C := RX5) (n := 1) (As := [.ref (g.1 1 0)]) (rest := []) S (kX5_measure l hg (by decide) (by decide) ho) (cwV 1 S.2.2.2.2 (zgV wm_X6_170 oX5_measure) rfl rfl rfl hX5_measure ⟨Nat.le_of_ble_eq_true rfl, Nat.le_of_ble_eq_true rfl⟩) ⟨zPc_blind, z_recv hK hR (by decide) rfl rfl, z_pre hK hR⟩ rfl rfl hl.1 rfl (lv_room (Nat.le_of_ble_eq_true rfl)) dX6_count_80 ⟨Nat.zero_le _, Nat.zero_le _⟩) (fun M23 H locs hR hS hF => ?_)
    refine lv_aload_n S.1 S.2.1 dX6_count_83 rfl (lv_at hl 0 rfl) ?_
    refine z_get (k := 0) (i := 0) (f := 2) (v := .ref (g.1 15 0)) S hK hR (by decide) rfl rfl (by decide) wf_X6_22 rfl dX6_count_84 ?_
    refine z_goi hS hF (fun _ _ ho => va_runV (C := RX5) (n := 0) (As := []) (rest := []) S (kX5_crossings l hg (by decide) ho) (cwV 0 S.2.2.2.2 (zgV wm_X6_202 oX5_crossings) rfl rfl rfl hX5_crossings ⟨Nat.le_of_ble_eq_true rfl, Nat.le_of_ble_eq_true rfl⟩) ⟨zPc_blind, z_recv hK hR (by decide) rfl rfl, z_pre hK hR⟩ rfl rfl hl.1 rfl (lv_room (Nat.le_of_ble_eq_true rfl)) dX6_count_87 ⟨Nat.zero_le _, Nat.zero_le _⟩) (fun r25 M24 H locs hR hS hF => ?_)
    exact z_iret S hr hlk hR hS hF dX6_count_90
  replace hF := z_cf hF hc2
  by_cases hc3 : v1 = 3
  · replace hF := z_ct hF hc3
    refine lv_tableIn (tgt := 91) S.1 S.2.1 dX6_count_1 (by rw [hc3]; decide) (by rw [hc3]; decide) (by rw [hc3]; rfl) (by decide) ?_
    refine lv_aload_n S.1 S.2.1 dX6_count_91 rfl (lv_at hl 0 rfl) ?_
    refine z_get (k := 0) (i := 0) (f := 0) (v := .ref (g.1 1 0)) S hK hR (by decide) rfl rfl (by decide) wf_X6_10 rfl dX6_count_92 ?_
    refine z_get (k := 1) (i := 0) (f := 1) (v := .int (M 1 0 1)) S hK hR (by decide) rfl rfl (by decide) wf_X6_205 rfl dX6_count_95 ?_
    exact z_iret S hr hlk hR hS hF dX6_count_98
  replace hF := z_cf hF hc3
  by_cases hc4 : v1 = 4
  · replace hF := z_ct hF hc4
    refine lv_tableIn (tgt := 99) S.1 S.2.1 dX6_count_1 (by rw [hc4]; decide) (by rw [hc4]; decide) (by rw [hc4]; rfl) (by decide) ?_
    refine lv_aload_n S.1 S.2.1 dX6_count_99 rfl (lv_at hl 0 rfl) ?_
    refine z_get (k := 0) (i := 0) (f := 0) (v := .ref (g.1 1 0)) S hK hR (by decide) rfl rfl (by decide) wf_X6_10 rfl dX6_count_100 ?_
    refine z_get (k := 1) (i := 0) (f := 2) (v := .int (M 1 0 2)) S hK hR (by decide) rfl rfl (by decide) wf_X6_112 rfl dX6_count_103 ?_
    exact z_iret S hr hlk hR hS hF dX6_count_106
  replace hF := z_cf hF hc4
  by_cases hc5 : v1 = 5
  · replace hF := z_ct hF hc5
    refine lv_tableIn (tgt := 107) S.1 S.2.1 dX6_count_1 (by rw [hc5]; decide) (by rw [hc5]; decide) (by rw [hc5]; rfl) (by decide) ?_
    refine lv_aload_n S.1 S.2.1 dX6_count_107 rfl (lv_at hl 0 rfl) ?_
    refine z_get (k := 0) (i := 0) (f := 0) (v := .ref (g.1 1 0)) S hK hR (by decide) rfl rfl (by decide) wf_X6_10 rfl dX6_count_108 ?_
    refine z_goi hS hF (fun _ _ ho => va_runV (C := RX2) (n := 0) (As := []) (rest := []) S (kX2_leader l hg (by decide) ho) (cwV 0 S.2.2.2.2 (zgV wm_X6_208 oX2_leader) rfl rfl rfl hX2_leader ⟨Nat.le_of_ble_eq_true rfl, Nat.le_of_ble_eq_true rfl⟩) ⟨zPc_blind, z_recv hK hR (by decide) rfl rfl, z_pre hK hR⟩ rfl rfl hl.1 rfl (lv_room (Nat.le_of_ble_eq_true rfl)) dX6_count_111 ⟨Nat.zero_le _, Nat.zero_le _⟩) (fun r27 M26 H locs hR hS hF => ?_)
    exact z_iret S hr hlk hR hS hF dX6_count_114
  replace hF := z_cf hF hc5
  by_cases hc6 : v1 = 6
  · replace hF := z_ct hF hc6
    refine lv_tableIn (tgt := 115) S.1 S.2.1 dX6_count_1 (by rw [hc6]; decide) (by rw [hc6]; decide) (by rw [hc6]; rfl) (by decide) ?_
    refine lv_aload_n S.1 S.2.1 dX6_count_115 rfl (lv_at hl 0 rfl) ?_
    refine z_get (k := 0) (i := 0) (f := 0) (v := .ref (g.1 1 0)) S hK hR (by decide) rfl rfl (by decide) wf_X6_10 rfl dX6_count_116 ?_
    refine z_goi hS hF (fun _ _ ho => va_runV (C := RX2) (n := 0) (As := []) (rest := []) S (kX2_allPoints l hg (by decide) ho) (cwV 0 S.2.2.2.2 (zgV wm_X6_211 oX2_allPoints) rfl rfl rfl hX2_allPoints ⟨Nat.le_of_ble_eq_true rfl, Nat.le_of_ble_eq_true rfl⟩) ⟨zPc_blind, z_recv hK hR (by decide) rfl rfl, z_pre hK hR⟩ rfl rfl hl.1 rfl (lv_room (Nat.le_of_ble_eq_true rfl)) dX6_count_119 ⟨Nat.zero_le _, Nat.zero_le _⟩) (fun r29 M28 H locs hR hS hF => ?_)
    exact z_iret S hr hlk hR hS hF dX6_count_122
  replace hF := z_cf hF hc6
  by_cases hc7 : v1 = 7
  · replace hF := z_ct hF hc7
    refine lv_tableIn (tgt := 123) S.1 S.2.1 dX6_count_1 (by rw [hc7]; decide) (by rw [hc7]; decide) (by rw [hc7]; rfl) (by decide) ?_
    refine lv_aload_n S.1 S.2.1 dX6_count_123 rfl (lv_at hl 0 rfl) ?_
    refine z_get (k := 0) (i := 0) (f := 0) (v := .ref (g.1 1 0)) S hK hR (by decide) rfl rfl (by decide) wf_X6_10 rfl dX6_count_124 ?_
    refine z_get (k := 1) (i := 0) (f := 3) (v := .int (M 1 0 3)) S hK hR (by decide) rfl rfl (by decide) wf_X6_214 rfl dX6_count_127 ?_
    exact z_iret S hr hlk hR hS hF dX6_count_130
  replace hF := z_cf hF hc7
  by_cases hc8 : v1 = 8
  · replace hF := z_ct hF hc8
    refine lv_tableIn (tgt := 131) S.1 S.2.1 dX6_count_1 (by rw [hc8]; decide) (by rw [hc8]; decide) (by rw [hc8]; rfl) (by decide) ?_
    refine lv_aload_n S.1 S.2.1 dX6_count_131 rfl (lv_at hl 0 rfl) ?_
    refine z_get (k := 0) (i := 0) (f := 7) (v := .ref (g.1 24 0)) S hK hR (by decide) rfl rfl (by decide) wf_X6_53 rfl dX6_count_132 ?_
    refine z_get (k := 24) (i := 0) (f := 1) (v := .int (M 24 0 1)) S hK hR (by decide) rfl rfl (by decide) wf_X6_125 rfl dX6_count_135 ?_
    exact z_iret S hr hlk hR hS hF dX6_count_138
  replace hF := z_cf hF hc8
  by_cases hc9 : v1 = 9
  · replace hF := z_ct hF hc9
    refine lv_tableIn (tgt := 139) S.1 S.2.1 dX6_count_1 (by rw [hc9]; decide) (by rw [hc9]; decide) (by rw [hc9]; rfl) (by decide) ?_
    refine lv_aload_n S.1 S.2.1 dX6_count_139 rfl (lv_at hl 0 rfl) ?_
    refine z_get (k := 0) (i := 0) (f := 4) (v := .ref (g.1 21 0)) S hK hR (by decide) rfl rfl (by decide) wf_X6_36 rfl dX6_count_140 ?_
    refine z_get (k := 21) (i := 0) (f := 2) (v := .int (M 21 0 2)) S hK hR (by decide) rfl rfl (by decide) wf_X6_217 rfl dX6_count_143 ?_
    exact z_iret S hr hlk hR hS hF dX6_count_146
  replace hF := z_cf hF hc9
  refine lv_tableOut (tgt := 147) S.1 S.2.1 dX6_count_1 (by have hn0 := z_ne hc0 (n := 0) rfl; have hn1 := z_ne hc1 (n := 1) rfl; have hn2 := z_ne hc2 (n := 2) rfl; have hn3 := z_ne hc3 (n := 3) rfl; have hn4 := z_ne hc4 (n := 4) rfl; have hn5 := z_ne hc5 (n := 5) rfl; have hn6 := z_ne hc6 (n := 6) rfl; have hn7 := z_ne hc7 (n := 7) rfl; have hn8 := z_ne hc8 (n := 8) rfl; have hn9 := z_ne hc9 (n := 9) rfl; omega) (by decide) ?_
  refine lv_bipush (v := (-2)) S.1 S.2.1 dX6_count_147 (by decide) ?_
  exact z_iret S hr hlk hR hS hF dX6_count_149
theorem hX6_ifPassed : yX6_ifPassed.cls = RX6 ∧ yX6_ifPassed.cls ≠ "java/lang/invoke/MethodHandle" ∧ yX6_ifPassed.cls ≠ "java/lang/invoke/VarHandle" ∧ (parseMethodDescriptor yX6_ifPassed.desc).map (fun d => d.parameters.length) = some 2 := by decide +kernel
theorem oX6_ifPassed : Cond.instanceMethod yX6_ifPassed ∈ zT ∧ Cond.selects RX6 yX6_ifPassed yX6_ifPassed ∈ zT ∧ Cond.initialized RX6 ∈ zT ∧ Cond.code yX6_ifPassed cX6_ifPassed 5 (some .int) ∈ zT := ⟨wv_X6_ifPassed, we_X6_ifPassed, wi_X6, wk_X6_ifPassed⟩
set_option maxRecDepth 100000 in
set_option maxHeartbeats 4000000 in
theorem kX6_ifPassed (l : Launch) {g : zGeo} {z : Nat} (hg : zAd g z) {M M' : zM} {v1 : Int32} {v2 : Int32} {r : Int32} (hF : fX6_ifPassed M v1 v2 = some (r, M')) : Met l yX6_ifPassed [.code yX6_ifPassed cX6_ifPassed 5 (some .int)] { frames := 6, cells := 0, slots := 0, locals := 134 } (zPc g M [.ref (g.1 0 0), .int v1, .int v2]) (zQi g z r M') 0 0 (zS z) := by
  refine z_enter (cc := cX6_ifPassed) (maxL := 5) (ret := (some .int)) (by decide) rfl (Nat.le_of_ble_eq_true rfl) ?_
  intro p e s m below meth c S hr hlk hK hR hS ls hl
  have S : CallFix p m c cX6_ifPassed 5 s _ zT RX6 := S
  have hl : lv_has ls 5 [(0, .ref (g.1 0 0)), (1, .int v1), (2, .int v2)] := hl
  have L39 : ∀ (k : zM → Int32 → Int32 → Option (Int32 × zM)) (a1 : Int32) (a2 : Int32), (∀ (M : zM) (a3 : Int32) (a4 : Int32) (H : Heap) (locs : List Loc), zR g M H → va_S (zS z) s.heap H locs → ∀ ls : Array Slot, lv_has ls 5 [(0, .ref (g.1 0 0)), (1, .int a1), (2, .int a2), (3, .int a3), (4, .int a4)] → k M a3 a4 = some (r, M') → W p l e { frames := 6, cells := 0, slots := 0, locals := 134 } s m ([.ref (g.1 0 0), .int v1, .int v2] : List Value).toArray below meth c H locs 0 0 (MQ below (zQi g z r M') ([.ref (g.1 0 0), .int v1, .int v2] : List Value).toArray s 0 0 (zS z)) (F0 m 72 ls [])) → ∀ (n : Nat) (M : zM) (a3 : Int32) (a4 : Int32) (H : Heap) (locs : List Loc), zR g M H → va_S (zS z) s.heap H locs → ∀ ls : Array Slot, lv_has ls 5 [(0, .ref (g.1 0 0)), (1, .int a1), (2, .int a2), (3, .int a3), (4, .int a4)] → fX6_ifPassed_L39 k a1 a2 n M a3 a4 = some (r, M') → W p l e { frames := 6, cells := 0, slots := 0, locals := 134 } s m ([.ref (g.1 0 0), .int v1, .int v2] : List Value).toArray below meth c H locs 0 0 (MQ below (zQi g z r M') ([.ref (g.1 0 0), .int v1, .int v2] : List Value).toArray s 0 0 (zS z)) (F0 m 39 ls []) := by
    intro k a1 a2 hk n
    induction n with
    | zero =>
      intro M a3 a4 H locs hR hS ls hl hF
      cases hF
    | succ n ih =>
      intro M a3 a4 H locs hR hS ls hl hF
      unfold fX6_ifPassed_L39 at hF
      refine lv_iload S.1 S.2.1 dX6_ifPassed_39 (lv_at hl 4 rfl) ?_
      refine lv_iload_n S.1 S.2.1 dX6_ifPassed_41 rfl (lv_at hl 1 rfl) ?_
      refine lv_icmp_ge (tgt := 72) S.1 S.2.1 dX6_ifPassed_42 (by decide) (fun hc28 => ?_) (fun hc28 => ?_)
      · replace hF := z_ct hF hc28
        exact hk _ _ _ _ _ hR hS _ (lv_sub hl [0, 1, 2, 3, 4] rfl) hF
      · replace hF := z_cf hF hc28
        refine lv_aload_n S.1 S.2.1 dX6_ifPassed_45 rfl (lv_at hl 0 rfl) ?_
        refine z_get (k := 0) (i := 0) (f := 3) (v := .ref (g.1 20 0)) S hK hR (by decide) rfl rfl (by decide) wf_X6_29 rfl dX6_ifPassed_46 ?_
        refine lv_aload_n S.1 S.2.1 dX6_ifPassed_49 rfl (lv_at hl 0 rfl) ?_
        refine z_get (k := 0) (i := 0) (f := 1) (v := .ref (g.1 1 1)) S hK hR (by decide) rfl rfl (by decide) wf_X6_16 rfl dX6_ifPassed_50 ?_
        refine z_gov hS hF (fun _ _ ho => va_runV (C := RX4) (n := 1) (As := [.ref (g.1 1 1)]) (rest := []) S (kX4_happenIn l hg (by decide) ho) (cwV 1 S.2.2.2.2 (zgV wm_X6_102 oX4_happenIn) rfl rfl rfl hX4_happenIn ⟨Nat.le_of_ble_eq_true rfl, Nat.le_of_ble_eq_true rfl⟩) ⟨zPc_blind, z_recv hK hR (by decide) rfl rfl, z_pre hK hR⟩ rfl rfl hl.1 rfl (lv_room (Nat.le_of_ble_eq_true rfl)) dX6_ifPassed_53 ⟨Nat.zero_le _, Nat.zero_le _⟩) (fun M29 H locs hR hS hF => ?_)
        refine lv_iload_n S.1 S.2.1 dX6_ifPassed_56 rfl (lv_at hl 3 rfl) ?_
        refine lv_aload_n S.1 S.2.1 dX6_ifPassed_57 rfl (lv_at hl 0 rfl) ?_
        refine z_get (k := 0) (i := 0) (f := 3) (v := .ref (g.1 20 0)) S hK hR (by decide) rfl rfl (by decide) wf_X6_29 rfl dX6_ifPassed_58 ?_
        refine z_get (k := 20) (i := 0) (f := 1) (v := .int (M29 20 0 1)) S hK hR (by decide) rfl rfl (by decide) wf_X6_105 rfl dX6_ifPassed_61 ?_
        refine lv_ior S.1 S.2.1 dX6_ifPassed_64 ?_
        refine z_nm hF (fun v30 hF => ?_)
        refine lv_istore_n (lv' := [(3, .int v30), (0, .ref (g.1 0 0)), (1, .int a1), (2, .int a2), (4, .int a4)]) S.1 S.2.1 dX6_ifPassed_65 rfl hl (by decide) rfl (fun ls hl => ?_)
        obtain ⟨v31, ev31, hF⟩ := zL_out hF
        refine lv_iinc (v := v31) (lv' := [(4, .int v31), (3, .int v30), (0, .ref (g.1 0 0)), (1, .int a1), (2, .int a2)]) S.1 S.2.1 dX6_ifPassed_66 hl (k := 4) rfl (by rw [← ev31]; rfl) (by decide) rfl (fun ls hl => ?_)
        refine lv_goto (tgt := 39) S.1 S.2.1 dX6_ifPassed_69 (by decide) ?_
        exact ih _ _ _ _ _ hR hS _ (lv_sub hl [2, 3, 4, 1, 0] rfl) hF
  unfold fX6_ifPassed at hF
  refine lv_iload_n S.1 S.2.1 dX6_ifPassed_0 rfl (lv_at hl 1 rfl) ?_
  refine lv_iconst (v := 1) S.1 S.2.1 dX6_ifPassed_1 (by decide) ?_
  refine lv_sipush (v := 200) S.1 S.2.1 dX6_ifPassed_2 (by decide) ?_
  refine z_goi hS hF (fun _ _ ho => va_runS (n := 3) (As := [.int v1, .int 1, .int 200]) (rest := []) S (kX6_isWithin l hg ho) (va_cwS 3 S.2.2.2.2 (zgS wm_X6_57 oX6_isWithin) rfl rfl rfl hX6_isWithin.2 ⟨Nat.le_of_ble_eq_true rfl, Nat.le_of_ble_eq_true rfl⟩) ⟨zPc_blind, z_pre hK hR⟩ rfl rfl hl.1 rfl (lv_room (Nat.le_of_ble_eq_true rfl)) dX6_ifPassed_5 ⟨Nat.zero_le _, Nat.zero_le _⟩) (fun r22 M21 H locs hR hS hF => ?_)
  refine lv_if_eq (tgt := 20) S.1 S.2.1 dX6_ifPassed_8 (by decide) (fun hc23 => ?_) (fun hc23 => ?_)
  · replace hF := z_ct hF hc23
    refine lv_bipush (v := (-2)) S.1 S.2.1 dX6_ifPassed_20 (by decide) ?_
    exact z_iret S hr hlk hR hS hF dX6_ifPassed_22
  · replace hF := z_cf hF hc23
    refine lv_iload_n S.1 S.2.1 dX6_ifPassed_11 rfl (lv_at hl 2 rfl) ?_
    refine lv_iconst (v := 0) S.1 S.2.1 dX6_ifPassed_12 (by decide) ?_
    refine lv_iconst (v := 2) S.1 S.2.1 dX6_ifPassed_13 (by decide) ?_
    refine z_goi hS hF (fun _ _ ho => va_runS (n := 3) (As := [.int v2, .int 0, .int 2]) (rest := []) S (kX6_isWithin l hg ho) (va_cwS 3 S.2.2.2.2 (zgS wm_X6_57 oX6_isWithin) rfl rfl rfl hX6_isWithin.2 ⟨Nat.le_of_ble_eq_true rfl, Nat.le_of_ble_eq_true rfl⟩) ⟨zPc_blind, z_pre hK hR⟩ rfl rfl hl.1 rfl (lv_room (Nat.le_of_ble_eq_true rfl)) dX6_ifPassed_14 ⟨Nat.zero_le _, Nat.zero_le _⟩) (fun r25 M24 H locs hR hS hF => ?_)
    refine lv_if_ne (tgt := 23) S.1 S.2.1 dX6_ifPassed_17 (by decide) (fun hc26 => ?_) (fun hc26 => ?_)
    · replace hF := z_cf hF hc26
      refine lv_aload_n S.1 S.2.1 dX6_ifPassed_23 rfl (lv_at hl 0 rfl) ?_
      refine z_get (k := 0) (i := 0) (f := 1) (v := .ref (g.1 1 1)) S hK hR (by decide) rfl rfl (by decide) wf_X6_16 rfl dX6_ifPassed_24 ?_
      refine lv_aload_n S.1 S.2.1 dX6_ifPassed_27 rfl (lv_at hl 0 rfl) ?_
      refine z_get (k := 0) (i := 0) (f := 0) (v := .ref (g.1 1 0)) S hK hR (by decide) rfl rfl (by decide) wf_X6_10 rfl dX6_ifPassed_28 ?_
      refine z_gov hS hF (fun _ _ ho => va_runV (C := RX2) (n := 1) (As := [.ref (g.1 1 0)]) (rest := []) S (kX2_copyFrom l hg (by decide) (by decide) ho) (cwV 1 S.2.2.2.2 (zgV wm_X6_220 oX2_copyFrom) rfl rfl rfl hX2_copyFrom ⟨Nat.le_of_ble_eq_true rfl, Nat.le_of_ble_eq_true rfl⟩) ⟨zPc_blind, z_recv hK hR (by decide) rfl rfl, z_pre hK hR⟩ rfl rfl hl.1 rfl (lv_room (Nat.le_of_ble_eq_true rfl)) dX6_ifPassed_31 ⟨Nat.zero_le _, Nat.zero_le _⟩) (fun M27 H locs hR hS hF => ?_)
      refine lv_iconst (v := 0) S.1 S.2.1 dX6_ifPassed_34 (by decide) ?_
      refine lv_istore_n (lv' := [(3, .int 0), (0, .ref (g.1 0 0)), (1, .int v1), (2, .int v2)]) S.1 S.2.1 dX6_ifPassed_35 rfl hl (by decide) rfl (fun ls hl => ?_)
      refine lv_iconst (v := 0) S.1 S.2.1 dX6_ifPassed_36 (by decide) ?_
      refine lv_istore (lv' := [(4, .int 0), (3, .int 0), (0, .ref (g.1 0 0)), (1, .int v1), (2, .int v2)]) S.1 S.2.1 dX6_ifPassed_37 hl (by decide) rfl (fun ls hl => ?_)
      refine L39 _ _ _ (fun M32 v33 v34 H locs hR hS ls hl hF => ?_) _ _ _ _ _ _ hR hS _ (lv_sub hl [2, 3, 4, 1, 0] rfl) hF
      refine lv_iload_n S.1 S.2.1 dX6_ifPassed_72 rfl (lv_at hl 2 rfl) ?_
      by_cases hc0 : v2 = 0
      · replace hF := z_ct hF hc0
        refine lv_lookup (off := 27) (tgt := 100) S.1 S.2.1 dX6_ifPassed_73 (by decide) (by rw [hc0] <;> rfl) (by decide) ?_
        refine lv_iload_n S.1 S.2.1 dX6_ifPassed_100 rfl (lv_at hl 3 rfl) ?_
        exact z_iret S hr hlk hR hS hF dX6_ifPassed_101
      replace hF := z_cf hF hc0
      by_cases hc1 : v2 = 1
      · replace hF := z_ct hF hc1
        refine lv_lookup (off := 29) (tgt := 102) S.1 S.2.1 dX6_ifPassed_73 (by decide) (by rw [hc1] <;> rfl) (by decide) ?_
        refine lv_aload_n S.1 S.2.1 dX6_ifPassed_102 rfl (lv_at hl 0 rfl) ?_
        refine z_get (k := 0) (i := 0) (f := 1) (v := .ref (g.1 1 1)) S hK hR (by decide) rfl rfl (by decide) wf_X6_16 rfl dX6_ifPassed_103 ?_
        refine z_goi hS hF (fun _ _ ho => va_runV (C := RX2) (n := 0) (As := []) (rest := []) S (kX2_allPoints l hg (by decide) ho) (cwV 0 S.2.2.2.2 (zgV wm_X6_211 oX2_allPoints) rfl rfl rfl hX2_allPoints ⟨Nat.le_of_ble_eq_true rfl, Nat.le_of_ble_eq_true rfl⟩) ⟨zPc_blind, z_recv hK hR (by decide) rfl rfl, z_pre hK hR⟩ rfl rfl hl.1 rfl (lv_room (Nat.le_of_ble_eq_true rfl)) dX6_ifPassed_106 ⟨Nat.zero_le _, Nat.zero_le _⟩) (fun r36 M35 H locs hR hS hF => ?_)
        refine lv_aload_n S.1 S.2.1 dX6_ifPassed_109 rfl (lv_at hl 0 rfl) ?_
        refine z_get (k := 0) (i := 0) (f := 0) (v := .ref (g.1 1 0)) S hK hR (by decide) rfl rfl (by decide) wf_X6_10 rfl dX6_ifPassed_110 ?_
        refine z_goi hS hF (fun _ _ ho => va_runV (C := RX2) (n := 0) (As := []) (rest := [.int r36]) S (kX2_allPoints l hg (by decide) ho) (cwV 0 S.2.2.2.2 (zgV wm_X6_211 oX2_allPoints) rfl rfl rfl hX2_allPoints ⟨Nat.le_of_ble_eq_true rfl, Nat.le_of_ble_eq_true rfl⟩) ⟨zPc_blind, z_recv hK hR (by decide) rfl rfl, z_pre hK hR⟩ rfl rfl hl.1 rfl (lv_room (Nat.le_of_ble_eq_true rfl)) dX6_ifPassed_113 ⟨Nat.zero_le _, Nat.zero_le _⟩) (fun r38 M37 H locs hR hS hF => ?_)
        refine lv_isub S.1 S.2.1 dX6_ifPassed_116 ?_
        exact z_iret S hr hlk hR hS hF dX6_ifPassed_117
      replace hF := z_cf hF hc1
      refine lv_lookup (off := 45) (tgt := 118) S.1 S.2.1 dX6_ifPassed_73 (by decide) (by have hn0 := z_ne hc0 (n := 0) rfl; have hn1 := z_ne hc1 (n := 1) rfl; simp [Op.lookupswitch.offset, hn0, Ne.symm hn0, hn1, Ne.symm hn1]) (by decide) ?_
      refine lv_aload_n S.1 S.2.1 dX6_ifPassed_118 rfl (lv_at hl 0 rfl) ?_
      refine z_get (k := 0) (i := 0) (f := 2) (v := .ref (g.1 15 0)) S hK hR (by decide) rfl rfl (by decide) wf_X6_22 rfl dX6_ifPassed_119 ?_
      refine lv_aload_n S.1 S.2.1 dX6_ifPassed_122 rfl (lv_at hl 0 rfl) ?_
      refine z_get (k := 0) (i := 0) (f := 1) (v := .ref (g.1 1 1)) S hK hR (by decide) rfl rfl (by decide) wf_X6_16 rfl dX6_ifPassed_123 ?_
      refine z_gov hS hF (fun _ _ ho => va_runV (C := RX5) (n := 1) (As := [.ref (g.1 1 1)]) (rest := []) S (kX5_measure l hg (by decide) (by decide) ho) (cwV 1 S.2.2.2.2 (zgV wm_X6_170 oX5_measure) rfl rfl rfl hX5_measure ⟨Nat.le_of_ble_eq_true rfl, Nat.le_of_ble_eq_true rfl⟩) ⟨zPc_blind, z_recv hK hR (by decide) rfl rfl, z_pre hK hR⟩ rfl rfl hl.1 rfl (lv_room (Nat.le_of_ble_eq_true rfl)) dX6_ifPassed_126 ⟨Nat.zero_le _, Nat.zero_le _⟩) (fun M39 H locs hR hS hF => ?_)
      refine lv_aload_n S.1 S.2.1 dX6_ifPassed_129 rfl (lv_at hl 0 rfl) ?_
      refine z_get (k := 0) (i := 0) (f := 2) (v := .ref (g.1 15 0)) S hK hR (by decide) rfl rfl (by decide) wf_X6_22 rfl dX6_ifPassed_130 ?_
      refine z_goi hS hF (fun _ _ ho => va_runV (C := RX5) (n := 0) (As := []) (rest := []) S (kX5_crossings l hg (by decide) ho) (cwV 0 S.2.2.2.2 (zgV wm_X6_202 oX5_crossings) rfl rfl rfl hX5_crossings ⟨Nat.le_of_ble_eq_true rfl, Nat.le_of_ble_eq_true rfl⟩) ⟨zPc_blind, z_recv hK hR (by decide) rfl rfl, z_pre hK hR⟩ rfl rfl hl.1 rfl (lv_room (Nat.le_of_ble_eq_true rfl)) dX6_ifPassed_133 ⟨Nat.zero_le _, Nat.zero_le _⟩) (fun r41 M40 H locs hR hS hF => ?_)
      exact z_iret S hr hlk hR hS hF dX6_ifPassed_136
    · replace hF := z_ct hF hc26
      refine lv_bipush (v := (-2)) S.1 S.2.1 dX6_ifPassed_20 (by decide) ?_
      exact z_iret S hr hlk hR hS hF dX6_ifPassed_22
theorem hX6_lowestOf : yX6_lowestOf.cls = RX6 ∧ yX6_lowestOf.cls ≠ "java/lang/invoke/MethodHandle" ∧ yX6_lowestOf.cls ≠ "java/lang/invoke/VarHandle" ∧ (parseMethodDescriptor yX6_lowestOf.desc).map (fun d => d.parameters.length) = some 1 := by decide +kernel
theorem oX6_lowestOf : Cond.static yX6_lowestOf ∈ zT ∧ Cond.initialized RX6 ∈ zT ∧ Cond.code yX6_lowestOf cX6_lowestOf 2 (some .int) ∈ zT := ⟨ws_X6_lowestOf, wi_X6, wk_X6_lowestOf⟩
set_option maxRecDepth 100000 in
set_option maxHeartbeats 4000000 in
theorem kX6_lowestOf (l : Launch) {g : zGeo} {z : Nat} (hg : zAd g z) {M M' : zM} {v0 : Int32} {r : Int32} (hF : fX6_lowestOf M v0 = some (r, M')) : Met l yX6_lowestOf [.code yX6_lowestOf cX6_lowestOf 2 (some .int)] { frames := 0, cells := 0, slots := 0, locals := 0 } (zPc g M [.int v0]) (zQi g z r M') 0 0 (zS z) := by
  refine z_enter (cc := cX6_lowestOf) (maxL := 2) (ret := (some .int)) (by decide) rfl (Nat.le_of_ble_eq_true rfl) ?_
  intro p e s m below meth c S hr hlk hK hR hS ls hl
  have S : CallFix p m c cX6_lowestOf 2 s _ zT RX6 := S
  have hl : lv_has ls 2 [(0, .int v0)] := hl
  have L2 : ∀ (k : zM → Int32 → Option (Int32 × zM)) (a0 : Int32), (∀ (M : zM) (a1 : Int32) (H : Heap) (locs : List Loc), zR g M H → va_S (zS z) s.heap H locs → ∀ ls : Array Slot, lv_has ls 2 [(0, .int a0), (1, .int a1)] → k M a1 = some (r, M') → W p l e { frames := 0, cells := 0, slots := 0, locals := 0 } s m ([.int v0] : List Value).toArray below meth c H locs 0 0 (MQ below (zQi g z r M') ([.int v0] : List Value).toArray s 0 0 (zS z)) (F0 m 25 ls [])) → ∀ (n : Nat) (M : zM) (a1 : Int32) (H : Heap) (locs : List Loc), zR g M H → va_S (zS z) s.heap H locs → ∀ ls : Array Slot, lv_has ls 2 [(0, .int a0), (1, .int a1)] → fX6_lowestOf_L2 k a0 n M a1 = some (r, M') → W p l e { frames := 0, cells := 0, slots := 0, locals := 0 } s m ([.int v0] : List Value).toArray below meth c H locs 0 0 (MQ below (zQi g z r M') ([.int v0] : List Value).toArray s 0 0 (zS z)) (F0 m 2 ls []) := by
    intro k a0 hk n
    induction n with
    | zero =>
      intro M a1 H locs hR hS ls hl hF
      cases hF
    | succ n ih =>
      intro M a1 H locs hR hS ls hl hF
      unfold fX6_lowestOf_L2 at hF
      refine lv_iload_n S.1 S.2.1 dX6_lowestOf_2 rfl (lv_at hl 1 rfl) ?_
      refine lv_bipush (v := 6) S.1 S.2.1 dX6_lowestOf_3 (by decide) ?_
      refine lv_icmp_ge (tgt := 25) S.1 S.2.1 dX6_lowestOf_5 (by decide) (fun hc21 => ?_) (fun hc21 => ?_)
      · replace hF := z_ct hF hc21
        exact hk _ _ _ _ hR hS _ (lv_sub hl [0, 1] rfl) hF
      · replace hF := z_cf hF hc21
        refine lv_iload_n S.1 S.2.1 dX6_lowestOf_8 rfl (lv_at hl 0 rfl) ?_
        refine lv_iload_n S.1 S.2.1 dX6_lowestOf_9 rfl (lv_at hl 1 rfl) ?_
        refine lv_ishr S.1 S.2.1 dX6_lowestOf_10 ?_
        refine lv_iconst (v := 1) S.1 S.2.1 dX6_lowestOf_11 (by decide) ?_
        refine lv_iand S.1 S.2.1 dX6_lowestOf_12 ?_
        refine lv_iconst (v := 1) S.1 S.2.1 dX6_lowestOf_13 (by decide) ?_
        refine lv_icmp_ne (tgt := 19) S.1 S.2.1 dX6_lowestOf_14 (by decide) (fun hc22 => ?_) (fun hc22 => ?_)
        · replace hF := z_cf hF hc22
          obtain ⟨v23, ev23, hF⟩ := zL_out hF
          refine lv_iinc (v := v23) (lv' := [(1, .int v23), (0, .int a0)]) S.1 S.2.1 dX6_lowestOf_19 hl (k := 1) rfl (by rw [← ev23]; rfl) (by decide) rfl (fun ls hl => ?_)
          refine lv_goto (tgt := 2) S.1 S.2.1 dX6_lowestOf_22 (by decide) ?_
          exact ih _ _ _ _ hR hS _ (lv_sub hl [1, 0] rfl) hF
        · replace hF := z_ct hF hc22
          refine lv_iload_n S.1 S.2.1 dX6_lowestOf_17 rfl (lv_at hl 1 rfl) ?_
          exact z_iret S hr hlk hR hS hF dX6_lowestOf_18
  unfold fX6_lowestOf at hF
  refine lv_iconst (v := 0) S.1 S.2.1 dX6_lowestOf_0 (by decide) ?_
  refine lv_istore_n (lv' := [(1, .int 0), (0, .int v0)]) S.1 S.2.1 dX6_lowestOf_1 rfl hl (by decide) rfl (fun ls hl => ?_)
  refine L2 _ _ (fun M24 v25 H locs hR hS ls hl hF => ?_) _ _ _ _ _ hR hS _ (lv_sub hl [1, 0] rfl) hF
  refine lv_bipush (v := (-6)) S.1 S.2.1 dX6_lowestOf_25 (by decide) ?_
  exact z_iret S hr hlk hR hS hF dX6_lowestOf_27
theorem hX6_aboutCut : yX6_aboutCut.cls = RX6 ∧ yX6_aboutCut.cls ≠ "java/lang/invoke/MethodHandle" ∧ yX6_aboutCut.cls ≠ "java/lang/invoke/VarHandle" ∧ (parseMethodDescriptor yX6_aboutCut.desc).map (fun d => d.parameters.length) = some 2 := by decide +kernel
theorem oX6_aboutCut : Cond.instanceMethod yX6_aboutCut ∈ zT ∧ Cond.selects RX6 yX6_aboutCut yX6_aboutCut ∈ zT ∧ Cond.initialized RX6 ∈ zT ∧ Cond.code yX6_aboutCut cX6_aboutCut 3 (some .int) ∈ zT := ⟨wv_X6_aboutCut, we_X6_aboutCut, wi_X6, wk_X6_aboutCut⟩
set_option maxRecDepth 100000 in
set_option maxHeartbeats 4000000 in
theorem kX6_aboutCut (l : Launch) {g : zGeo} {z : Nat} (hg : zAd g z) {M M' : zM} {v1 : Int32} {v2 : Int32} {r : Int32} (hF : fX6_aboutCut M v1 v2 = some (r, M')) : Met l yX6_aboutCut [.code yX6_aboutCut cX6_aboutCut 3 (some .int)] { frames := 1, cells := 0, slots := 0, locals := 21 } (zPc g M [.ref (g.1 0 0), .int v1, .int v2]) (zQi g z r M') 0 0 (zS z) := by
  refine z_enter (cc := cX6_aboutCut) (maxL := 3) (ret := (some .int)) (by decide) rfl (Nat.le_of_ble_eq_true rfl) ?_
  intro p e s m below meth c S hr hlk hK hR hS ls hl
  have S : CallFix p m c cX6_aboutCut 3 s _ zT RX6 := S
  have hl : lv_has ls 3 [(0, .ref (g.1 0 0)), (1, .int v1), (2, .int v2)] := hl
  unfold fX6_aboutCut at hF
  refine lv_iload_n S.1 S.2.1 dX6_aboutCut_0 rfl (lv_at hl 2 rfl) ?_
  by_cases hc0 : v2 = 0
  · replace hF := z_ct hF hc0
    refine lv_lookup (off := 27) (tgt := 28) S.1 S.2.1 dX6_aboutCut_1 (by decide) (by rw [hc0] <;> rfl) (by decide) ?_
    refine lv_iload_n S.1 S.2.1 dX6_aboutCut_28 rfl (lv_at hl 1 rfl) ?_
    exact z_iret S hr hlk hR hS hF dX6_aboutCut_29
  replace hF := z_cf hF hc0
  by_cases hc1 : v2 = 1
  · replace hF := z_ct hF hc1
    refine lv_lookup (off := 29) (tgt := 30) S.1 S.2.1 dX6_aboutCut_1 (by decide) (by rw [hc1] <;> rfl) (by decide) ?_
    refine lv_aload_n S.1 S.2.1 dX6_aboutCut_30 rfl (lv_at hl 0 rfl) ?_
    refine z_get (k := 0) (i := 0) (f := 3) (v := .ref (g.1 20 0)) S hK hR (by decide) rfl rfl (by decide) wf_X6_29 rfl dX6_aboutCut_31 ?_
    refine z_get (k := 20) (i := 0) (f := 1) (v := .int (M 20 0 1)) S hK hR (by decide) rfl rfl (by decide) wf_X6_105 rfl dX6_aboutCut_34 ?_
    refine z_goi hS hF (fun _ _ ho => va_runS (n := 1) (As := [.int (M 20 0 1)]) (rest := []) S (kX6_lowestOf l hg ho) (va_cwS 1 S.2.2.2.2 (zgS wm_X6_226 oX6_lowestOf) rfl rfl rfl hX6_lowestOf.2 ⟨Nat.le_of_ble_eq_true rfl, Nat.le_of_ble_eq_true rfl⟩) ⟨zPc_blind, z_pre hK hR⟩ rfl rfl hl.1 rfl (lv_room (Nat.le_of_ble_eq_true rfl)) dX6_aboutCut_37 ⟨Nat.zero_le _, Nat.zero_le _⟩) (fun r22 M21 H locs hR hS hF => ?_)
    exact z_iret S hr hlk hR hS hF dX6_aboutCut_40
  replace hF := z_cf hF hc1
  refine lv_lookup (off := 40) (tgt := 41) S.1 S.2.1 dX6_aboutCut_1 (by decide) (by have hn0 := z_ne hc0 (n := 0) rfl; have hn1 := z_ne hc1 (n := 1) rfl; simp [Op.lookupswitch.offset, hn0, Ne.symm hn0, hn1, Ne.symm hn1]) (by decide) ?_
  refine lv_aload_n S.1 S.2.1 dX6_aboutCut_41 rfl (lv_at hl 0 rfl) ?_
  refine z_get (k := 0) (i := 0) (f := 3) (v := .ref (g.1 20 0)) S hK hR (by decide) rfl rfl (by decide) wf_X6_29 rfl dX6_aboutCut_42 ?_
  refine z_get (k := 20) (i := 0) (f := 2) (v := .int (M 20 0 2)) S hK hR (by decide) rfl rfl (by decide) wf_X6_229 rfl dX6_aboutCut_45 ?_
  exact z_iret S hr hlk hR hS hF dX6_aboutCut_48
theorem hX6_firstCut : yX6_firstCut.cls = RX6 ∧ yX6_firstCut.cls ≠ "java/lang/invoke/MethodHandle" ∧ yX6_firstCut.cls ≠ "java/lang/invoke/VarHandle" ∧ (parseMethodDescriptor yX6_firstCut.desc).map (fun d => d.parameters.length) = some 1 := by decide +kernel
theorem oX6_firstCut : Cond.instanceMethod yX6_firstCut ∈ zT ∧ Cond.selects RX6 yX6_firstCut yX6_firstCut ∈ zT ∧ Cond.initialized RX6 ∈ zT ∧ Cond.code yX6_firstCut cX6_firstCut 3 (some .int) ∈ zT := ⟨wv_X6_firstCut, we_X6_firstCut, wi_X6, wk_X6_firstCut⟩
set_option maxRecDepth 100000 in
set_option maxHeartbeats 4000000 in
theorem kX6_firstCut (l : Launch) {g : zGeo} {z : Nat} (hg : zAd g z) {M M' : zM} {v1 : Int32} {r : Int32} (hF : fX6_firstCut M v1 = some (r, M')) : Met l yX6_firstCut [.code yX6_firstCut cX6_firstCut 3 (some .int)] { frames := 6, cells := 0, slots := 0, locals := 134 } (zPc g M [.ref (g.1 0 0), .int v1]) (zQi g z r M') 0 0 (zS z) := by
  refine z_enter (cc := cX6_firstCut) (maxL := 3) (ret := (some .int)) (by decide) rfl (Nat.le_of_ble_eq_true rfl) ?_
  intro p e s m below meth c S hr hlk hK hR hS ls hl
  have S : CallFix p m c cX6_firstCut 3 s _ zT RX6 := S
  have hl : lv_has ls 3 [(0, .ref (g.1 0 0)), (1, .int v1)] := hl
  have L25 : ∀ (k : zM → Int32 → Option (Int32 × zM)) (a1 : Int32), (∀ (M : zM) (a2 : Int32) (H : Heap) (locs : List Loc), zR g M H → va_S (zS z) s.heap H locs → ∀ ls : Array Slot, lv_has ls 3 [(0, .ref (g.1 0 0)), (1, .int a1), (2, .int a2)] → k M a2 = some (r, M') → W p l e { frames := 6, cells := 0, slots := 0, locals := 134 } s m ([.ref (g.1 0 0), .int v1] : List Value).toArray below meth c H locs 0 0 (MQ below (zQi g z r M') ([.ref (g.1 0 0), .int v1] : List Value).toArray s 0 0 (zS z)) (F0 m 66 ls [])) → ∀ (n : Nat) (M : zM) (a2 : Int32) (H : Heap) (locs : List Loc), zR g M H → va_S (zS z) s.heap H locs → ∀ ls : Array Slot, lv_has ls 3 [(0, .ref (g.1 0 0)), (1, .int a1), (2, .int a2)] → fX6_firstCut_L25 k a1 n M a2 = some (r, M') → W p l e { frames := 6, cells := 0, slots := 0, locals := 134 } s m ([.ref (g.1 0 0), .int v1] : List Value).toArray below meth c H locs 0 0 (MQ below (zQi g z r M') ([.ref (g.1 0 0), .int v1] : List Value).toArray s 0 0 (zS z)) (F0 m 25 ls []) := by
    intro k a1 hk n
    induction n with
    | zero =>
      intro M a2 H locs hR hS ls hl hF
      cases hF
    | succ n ih =>
      intro M a2 H locs hR hS ls hl hF
      unfold fX6_firstCut_L25 at hF
      refine lv_iload_n S.1 S.2.1 dX6_firstCut_25 rfl (lv_at hl 2 rfl) ?_
      refine lv_sipush (v := 300) S.1 S.2.1 dX6_firstCut_26 (by decide) ?_
      refine lv_icmp_gt (tgt := 66) S.1 S.2.1 dX6_firstCut_29 (by decide) (fun hc25 => ?_) (fun hc25 => ?_)
      · replace hF := z_ct hF hc25
        exact hk _ _ _ _ hR hS _ (lv_sub hl [0, 1, 2] rfl) hF
      · replace hF := z_cf hF hc25
        refine lv_aload_n S.1 S.2.1 dX6_firstCut_32 rfl (lv_at hl 0 rfl) ?_
        refine z_get (k := 0) (i := 0) (f := 3) (v := .ref (g.1 20 0)) S hK hR (by decide) rfl rfl (by decide) wf_X6_29 rfl dX6_firstCut_33 ?_
        refine lv_aload_n S.1 S.2.1 dX6_firstCut_36 rfl (lv_at hl 0 rfl) ?_
        refine z_get (k := 0) (i := 0) (f := 1) (v := .ref (g.1 1 1)) S hK hR (by decide) rfl rfl (by decide) wf_X6_16 rfl dX6_firstCut_37 ?_
        refine z_gov hS hF (fun _ _ ho => va_runV (C := RX4) (n := 1) (As := [.ref (g.1 1 1)]) (rest := []) S (kX4_happenIn l hg (by decide) ho) (cwV 1 S.2.2.2.2 (zgV wm_X6_102 oX4_happenIn) rfl rfl rfl hX4_happenIn ⟨Nat.le_of_ble_eq_true rfl, Nat.le_of_ble_eq_true rfl⟩) ⟨zPc_blind, z_recv hK hR (by decide) rfl rfl, z_pre hK hR⟩ rfl rfl hl.1 rfl (lv_room (Nat.le_of_ble_eq_true rfl)) dX6_firstCut_40 ⟨Nat.zero_le _, Nat.zero_le _⟩) (fun M26 H locs hR hS hF => ?_)
        refine lv_aload_n S.1 S.2.1 dX6_firstCut_43 rfl (lv_at hl 0 rfl) ?_
        refine z_get (k := 0) (i := 0) (f := 3) (v := .ref (g.1 20 0)) S hK hR (by decide) rfl rfl (by decide) wf_X6_29 rfl dX6_firstCut_44 ?_
        refine z_get (k := 20) (i := 0) (f := 1) (v := .int (M26 20 0 1)) S hK hR (by decide) rfl rfl (by decide) wf_X6_105 rfl dX6_firstCut_47 ?_
        refine lv_if_eq (tgt := 60) S.1 S.2.1 dX6_firstCut_50 (by decide) (fun hc27 => ?_) (fun hc27 => ?_)
        · replace hF := z_ct hF hc27
          obtain ⟨v28, ev28, hF⟩ := zL_out hF
          refine lv_iinc (v := v28) (lv' := [(2, .int v28), (0, .ref (g.1 0 0)), (1, .int a1)]) S.1 S.2.1 dX6_firstCut_60 hl (k := 2) rfl (by rw [← ev28]; rfl) (by decide) rfl (fun ls hl => ?_)
          refine lv_goto (tgt := 25) S.1 S.2.1 dX6_firstCut_63 (by decide) ?_
          exact ih _ _ _ _ hR hS _ (lv_sub hl [1, 2, 0] rfl) hF
        · replace hF := z_cf hF hc27
          refine lv_aload_n S.1 S.2.1 dX6_firstCut_53 rfl (lv_at hl 0 rfl) ?_
          refine lv_iload_n S.1 S.2.1 dX6_firstCut_54 rfl (lv_at hl 2 rfl) ?_
          refine lv_iload_n S.1 S.2.1 dX6_firstCut_55 rfl (lv_at hl 1 rfl) ?_
          refine z_goi hS hF (fun _ _ ho => va_runV (C := RX6) (n := 2) (As := [.int a2, .int a1]) (rest := []) S (kX6_aboutCut l hg ho) (cwV 2 S.2.2.2.2 (zgV wm_X6_223 oX6_aboutCut) rfl rfl rfl hX6_aboutCut ⟨Nat.le_of_ble_eq_true rfl, Nat.le_of_ble_eq_true rfl⟩) ⟨zPc_blind, z_recv hK hR (by decide) rfl rfl, z_pre hK hR⟩ rfl rfl hl.1 rfl (lv_room (Nat.le_of_ble_eq_true rfl)) dX6_firstCut_56 ⟨Nat.zero_le _, Nat.zero_le _⟩) (fun r30 M29 H locs hR hS hF => ?_)
          exact z_iret S hr hlk hR hS hF dX6_firstCut_59
  unfold fX6_firstCut at hF
  refine lv_iload_n S.1 S.2.1 dX6_firstCut_0 rfl (lv_at hl 1 rfl) ?_
  refine lv_iconst (v := 0) S.1 S.2.1 dX6_firstCut_1 (by decide) ?_
  refine lv_iconst (v := 2) S.1 S.2.1 dX6_firstCut_2 (by decide) ?_
  refine z_goi hS hF (fun _ _ ho => va_runS (n := 3) (As := [.int v1, .int 0, .int 2]) (rest := []) S (kX6_isWithin l hg ho) (va_cwS 3 S.2.2.2.2 (zgS wm_X6_57 oX6_isWithin) rfl rfl rfl hX6_isWithin.2 ⟨Nat.le_of_ble_eq_true rfl, Nat.le_of_ble_eq_true rfl⟩) ⟨zPc_blind, z_pre hK hR⟩ rfl rfl hl.1 rfl (lv_room (Nat.le_of_ble_eq_true rfl)) dX6_firstCut_3 ⟨Nat.zero_le _, Nat.zero_le _⟩) (fun r22 M21 H locs hR hS hF => ?_)
  refine lv_if_ne (tgt := 12) S.1 S.2.1 dX6_firstCut_6 (by decide) (fun hc23 => ?_) (fun hc23 => ?_)
  · replace hF := z_cf hF hc23
    refine lv_aload_n S.1 S.2.1 dX6_firstCut_12 rfl (lv_at hl 0 rfl) ?_
    refine z_get (k := 0) (i := 0) (f := 1) (v := .ref (g.1 1 1)) S hK hR (by decide) rfl rfl (by decide) wf_X6_16 rfl dX6_firstCut_13 ?_
    refine lv_aload_n S.1 S.2.1 dX6_firstCut_16 rfl (lv_at hl 0 rfl) ?_
    refine z_get (k := 0) (i := 0) (f := 0) (v := .ref (g.1 1 0)) S hK hR (by decide) rfl rfl (by decide) wf_X6_10 rfl dX6_firstCut_17 ?_
    refine z_gov hS hF (fun _ _ ho => va_runV (C := RX2) (n := 1) (As := [.ref (g.1 1 0)]) (rest := []) S (kX2_copyFrom l hg (by decide) (by decide) ho) (cwV 1 S.2.2.2.2 (zgV wm_X6_220 oX2_copyFrom) rfl rfl rfl hX2_copyFrom ⟨Nat.le_of_ble_eq_true rfl, Nat.le_of_ble_eq_true rfl⟩) ⟨zPc_blind, z_recv hK hR (by decide) rfl rfl, z_pre hK hR⟩ rfl rfl hl.1 rfl (lv_room (Nat.le_of_ble_eq_true rfl)) dX6_firstCut_20 ⟨Nat.zero_le _, Nat.zero_le _⟩) (fun M24 H locs hR hS hF => ?_)
    refine lv_iconst (v := 1) S.1 S.2.1 dX6_firstCut_23 (by decide) ?_
    refine lv_istore_n (lv' := [(2, .int 1), (0, .ref (g.1 0 0)), (1, .int v1)]) S.1 S.2.1 dX6_firstCut_24 rfl hl (by decide) rfl (fun ls hl => ?_)
    refine L25 _ _ (fun M31 v32 H locs hR hS ls hl hF => ?_) _ _ _ _ _ hR hS _ (lv_sub hl [1, 2, 0] rfl) hF
    refine lv_bipush (v := (-6)) S.1 S.2.1 dX6_firstCut_66 (by decide) ?_
    exact z_iret S hr hlk hR hS hF dX6_firstCut_68
  · replace hF := z_ct hF hc23
    refine lv_bipush (v := (-2)) S.1 S.2.1 dX6_firstCut_9 (by decide) ?_
    exact z_iret S hr hlk hR hS hF dX6_firstCut_11
theorem hX6_meets : yX6_meets.cls = RX6 ∧ yX6_meets.cls ≠ "java/lang/invoke/MethodHandle" ∧ yX6_meets.cls ≠ "java/lang/invoke/VarHandle" ∧ (parseMethodDescriptor yX6_meets.desc).map (fun d => d.parameters.length) = some 2 := by decide +kernel
theorem oX6_meets : Cond.instanceMethod yX6_meets ∈ zT ∧ Cond.selects RX6 yX6_meets yX6_meets ∈ zT ∧ Cond.initialized RX6 ∈ zT ∧ Cond.code yX6_meets cX6_meets 4 (some .int) ∈ zT := ⟨wv_X6_meets, we_X6_meets, wi_X6, wk_X6_meets⟩
set_option maxRecDepth 100000 in
set_option maxHeartbeats 4000000 in
theorem kX6_meets (l : Launch) {g : zGeo} {z : Nat} (hg : zAd g z) {M M' : zM} {v1 : Int32} {v2 : Int32} {r : Int32} (hF : fX6_meets M v1 v2 = some (r, M')) : Met l yX6_meets [.code yX6_meets cX6_meets 4 (some .int)] { frames := 6, cells := 0, slots := 0, locals := 134 } (zPc g M [.ref (g.1 0 0), .int v1, .int v2]) (zQi g z r M') 0 0 (zS z) := by
  refine z_enter (cc := cX6_meets) (maxL := 4) (ret := (some .int)) (by decide) rfl (Nat.le_of_ble_eq_true rfl) ?_
  intro p e s m below meth c S hr hlk hK hR hS ls hl
  have S : CallFix p m c cX6_meets 4 s _ zT RX6 := S
  have hl : lv_has ls 4 [(0, .ref (g.1 0 0)), (1, .int v1), (2, .int v2)] := hl
  have L95 : ∀ (k : zM → Int32 → Option (Int32 × zM)) (a1 : Int32) (a2 : Int32), (∀ (M : zM) (a3 : Int32) (H : Heap) (locs : List Loc), zR g M H → va_S (zS z) s.heap H locs → ∀ ls : Array Slot, lv_has ls 4 [(0, .ref (g.1 0 0)), (1, .int a1), (2, .int a2), (3, .int a3)] → k M a3 = some (r, M') → W p l e { frames := 6, cells := 0, slots := 0, locals := 134 } s m ([.ref (g.1 0 0), .int v1, .int v2] : List Value).toArray below meth c H locs 0 0 (MQ below (zQi g z r M') ([.ref (g.1 0 0), .int v1, .int v2] : List Value).toArray s 0 0 (zS z)) (F0 m 136 ls [])) → ∀ (n : Nat) (M : zM) (a3 : Int32) (H : Heap) (locs : List Loc), zR g M H → va_S (zS z) s.heap H locs → ∀ ls : Array Slot, lv_has ls 4 [(0, .ref (g.1 0 0)), (1, .int a1), (2, .int a2), (3, .int a3)] → fX6_meets_L95 k a1 a2 n M a3 = some (r, M') → W p l e { frames := 6, cells := 0, slots := 0, locals := 134 } s m ([.ref (g.1 0 0), .int v1, .int v2] : List Value).toArray below meth c H locs 0 0 (MQ below (zQi g z r M') ([.ref (g.1 0 0), .int v1, .int v2] : List Value).toArray s 0 0 (zS z)) (F0 m 95 ls []) := by
    intro k a1 a2 hk n
    induction n with
    | zero =>
      intro M a3 H locs hR hS ls hl hF
      cases hF
    | succ n ih =>
      intro M a3 H locs hR hS ls hl hF
      unfold fX6_meets_L95 at hF
      refine lv_iload_n S.1 S.2.1 dX6_meets_95 rfl (lv_at hl 3 rfl) ?_
      refine lv_sipush (v := 300) S.1 S.2.1 dX6_meets_96 (by decide) ?_
      refine lv_icmp_gt (tgt := 136) S.1 S.2.1 dX6_meets_99 (by decide) (fun hc39 => ?_) (fun hc39 => ?_)
      · replace hF := z_ct hF hc39
        exact hk _ _ _ _ hR hS _ (lv_sub hl [0, 1, 2, 3] rfl) hF
      · replace hF := z_cf hF hc39
        refine lv_aload_n S.1 S.2.1 dX6_meets_102 rfl (lv_at hl 0 rfl) ?_
        refine z_get (k := 0) (i := 0) (f := 3) (v := .ref (g.1 20 0)) S hK hR (by decide) rfl rfl (by decide) wf_X6_29 rfl dX6_meets_103 ?_
        refine lv_aload_n S.1 S.2.1 dX6_meets_106 rfl (lv_at hl 0 rfl) ?_
        refine z_get (k := 0) (i := 0) (f := 1) (v := .ref (g.1 1 1)) S hK hR (by decide) rfl rfl (by decide) wf_X6_16 rfl dX6_meets_107 ?_
        refine z_gov hS hF (fun _ _ ho => va_runV (C := RX4) (n := 1) (As := [.ref (g.1 1 1)]) (rest := []) S (kX4_happenIn l hg (by decide) ho) (cwV 1 S.2.2.2.2 (zgV wm_X6_102 oX4_happenIn) rfl rfl rfl hX4_happenIn ⟨Nat.le_of_ble_eq_true rfl, Nat.le_of_ble_eq_true rfl⟩) ⟨zPc_blind, z_recv hK hR (by decide) rfl rfl, z_pre hK hR⟩ rfl rfl hl.1 rfl (lv_room (Nat.le_of_ble_eq_true rfl)) dX6_meets_110 ⟨Nat.zero_le _, Nat.zero_le _⟩) (fun M40 H locs hR hS hF => ?_)
        refine lv_aload_n S.1 S.2.1 dX6_meets_113 rfl (lv_at hl 0 rfl) ?_
        refine z_get (k := 0) (i := 0) (f := 3) (v := .ref (g.1 20 0)) S hK hR (by decide) rfl rfl (by decide) wf_X6_29 rfl dX6_meets_114 ?_
        refine z_get (k := 20) (i := 0) (f := 0) (v := .ref (g.1 15 1)) S hK hR (by decide) rfl rfl (by decide) wf_X6_232 rfl dX6_meets_117 ?_
        refine lv_iload_n S.1 S.2.1 dX6_meets_120 rfl (lv_at hl 1 rfl) ?_
        refine lv_iload_n S.1 S.2.1 dX6_meets_121 rfl (lv_at hl 2 rfl) ?_
        refine z_goi hS hF (fun _ _ ho => va_runV (C := RX5) (n := 2) (As := [.int a1, .int a2]) (rest := []) S (kX5_cross l hg (by decide) ho) (cwV 2 S.2.2.2.2 (zgV wm_X6_179 oX5_cross) rfl rfl rfl hX5_cross ⟨Nat.le_of_ble_eq_true rfl, Nat.le_of_ble_eq_true rfl⟩) ⟨zPc_blind, z_recv hK hR (by decide) rfl rfl, z_pre hK hR⟩ rfl rfl hl.1 rfl (lv_room (Nat.le_of_ble_eq_true rfl)) dX6_meets_122 ⟨Nat.zero_le _, Nat.zero_le _⟩) (fun r42 M41 H locs hR hS hF => ?_)
        refine lv_if_eq (tgt := 130) S.1 S.2.1 dX6_meets_125 (by decide) (fun hc43 => ?_) (fun hc43 => ?_)
        · replace hF := z_ct hF hc43
          obtain ⟨v44, ev44, hF⟩ := zL_out hF
          refine lv_iinc (v := v44) (lv' := [(3, .int v44), (0, .ref (g.1 0 0)), (1, .int a1), (2, .int a2)]) S.1 S.2.1 dX6_meets_130 hl (k := 3) rfl (by rw [← ev44]; rfl) (by decide) rfl (fun ls hl => ?_)
          refine lv_goto (tgt := 95) S.1 S.2.1 dX6_meets_133 (by decide) ?_
          exact ih _ _ _ _ hR hS _ (lv_sub hl [1, 2, 3, 0] rfl) hF
        · replace hF := z_cf hF hc43
          refine lv_iload_n S.1 S.2.1 dX6_meets_128 rfl (lv_at hl 3 rfl) ?_
          exact z_iret S hr hlk hR hS hF dX6_meets_129
  unfold fX6_meets at hF
  refine lv_aload_n S.1 S.2.1 dX6_meets_0 rfl (lv_at hl 0 rfl) ?_
  refine z_get (k := 0) (i := 0) (f := 0) (v := .ref (g.1 1 0)) S hK hR (by decide) rfl rfl (by decide) wf_X6_10 rfl dX6_meets_1 ?_
  refine lv_iload_n S.1 S.2.1 dX6_meets_4 rfl (lv_at hl 1 rfl) ?_
  refine z_goi hS hF (fun _ _ ho => va_runV (C := RX2) (n := 1) (As := [.int v1]) (rest := []) S (kX2_has l hg (by decide) ho) (cwV 1 S.2.2.2.2 (zgV wm_X6_80 oX2_has) rfl rfl rfl hX2_has ⟨Nat.le_of_ble_eq_true rfl, Nat.le_of_ble_eq_true rfl⟩) ⟨zPc_blind, z_recv hK hR (by decide) rfl rfl, z_pre hK hR⟩ rfl rfl hl.1 rfl (lv_room (Nat.le_of_ble_eq_true rfl)) dX6_meets_5 ⟨Nat.zero_le _, Nat.zero_le _⟩) (fun r22 M21 H locs hR hS hF => ?_)
  refine lv_if_eq (tgt := 22) S.1 S.2.1 dX6_meets_8 (by decide) (fun hc23 => ?_) (fun hc23 => ?_)
  · replace hF := z_ct hF hc23
    refine lv_iconst (v := (-1)) S.1 S.2.1 dX6_meets_22 (by decide) ?_
    exact z_iret S hr hlk hR hS hF dX6_meets_23
  · replace hF := z_cf hF hc23
    refine lv_aload_n S.1 S.2.1 dX6_meets_11 rfl (lv_at hl 0 rfl) ?_
    refine z_get (k := 0) (i := 0) (f := 0) (v := .ref (g.1 1 0)) S hK hR (by decide) rfl rfl (by decide) wf_X6_10 rfl dX6_meets_12 ?_
    refine lv_iload_n S.1 S.2.1 dX6_meets_15 rfl (lv_at hl 2 rfl) ?_
    refine z_goi hS hF (fun _ _ ho => va_runV (C := RX2) (n := 1) (As := [.int v2]) (rest := []) S (kX2_has l hg (by decide) ho) (cwV 1 S.2.2.2.2 (zgV wm_X6_80 oX2_has) rfl rfl rfl hX2_has ⟨Nat.le_of_ble_eq_true rfl, Nat.le_of_ble_eq_true rfl⟩) ⟨zPc_blind, z_recv hK hR (by decide) rfl rfl, z_pre hK hR⟩ rfl rfl hl.1 rfl (lv_room (Nat.le_of_ble_eq_true rfl)) dX6_meets_16 ⟨Nat.zero_le _, Nat.zero_le _⟩) (fun r25 M24 H locs hR hS hF => ?_)
    refine lv_if_ne (tgt := 24) S.1 S.2.1 dX6_meets_19 (by decide) (fun hc26 => ?_) (fun hc26 => ?_)
    · replace hF := z_cf hF hc26
      refine lv_iload_n S.1 S.2.1 dX6_meets_24 rfl (lv_at hl 1 rfl) ?_
      refine lv_iload_n S.1 S.2.1 dX6_meets_25 rfl (lv_at hl 2 rfl) ?_
      refine lv_icmp_ne (tgt := 32) S.1 S.2.1 dX6_meets_26 (by decide) (fun hc27 => ?_) (fun hc27 => ?_)
      · replace hF := z_cf hF hc27
        refine lv_aload_n S.1 S.2.1 dX6_meets_32 rfl (lv_at hl 0 rfl) ?_
        refine z_get (k := 0) (i := 0) (f := 0) (v := .ref (g.1 1 0)) S hK hR (by decide) rfl rfl (by decide) wf_X6_10 rfl dX6_meets_33 ?_
        refine lv_iload_n S.1 S.2.1 dX6_meets_36 rfl (lv_at hl 1 rfl) ?_
        refine z_goi hS hF (fun _ _ ho => va_runV (C := RX2) (n := 1) (As := [.int v1]) (rest := []) S (kX2_isFlying l hg (by decide) ho) (cwV 1 S.2.2.2.2 (zgV wm_X6_84 oX2_isFlying) rfl rfl rfl hX2_isFlying ⟨Nat.le_of_ble_eq_true rfl, Nat.le_of_ble_eq_true rfl⟩) ⟨zPc_blind, z_recv hK hR (by decide) rfl rfl, z_pre hK hR⟩ rfl rfl hl.1 rfl (lv_room (Nat.le_of_ble_eq_true rfl)) dX6_meets_37 ⟨Nat.zero_le _, Nat.zero_le _⟩) (fun r29 M28 H locs hR hS hF => ?_)
        refine lv_if_eq (tgt := 54) S.1 S.2.1 dX6_meets_40 (by decide) (fun hc30 => ?_) (fun hc30 => ?_)
        · replace hF := z_ct hF hc30
          refine lv_bipush (v := (-5)) S.1 S.2.1 dX6_meets_54 (by decide) ?_
          exact z_iret S hr hlk hR hS hF dX6_meets_56
        · replace hF := z_cf hF hc30
          refine lv_aload_n S.1 S.2.1 dX6_meets_43 rfl (lv_at hl 0 rfl) ?_
          refine z_get (k := 0) (i := 0) (f := 0) (v := .ref (g.1 1 0)) S hK hR (by decide) rfl rfl (by decide) wf_X6_10 rfl dX6_meets_44 ?_
          refine lv_iload_n S.1 S.2.1 dX6_meets_47 rfl (lv_at hl 2 rfl) ?_
          refine z_goi hS hF (fun _ _ ho => va_runV (C := RX2) (n := 1) (As := [.int v2]) (rest := []) S (kX2_isFlying l hg (by decide) ho) (cwV 1 S.2.2.2.2 (zgV wm_X6_84 oX2_isFlying) rfl rfl rfl hX2_isFlying ⟨Nat.le_of_ble_eq_true rfl, Nat.le_of_ble_eq_true rfl⟩) ⟨zPc_blind, z_recv hK hR (by decide) rfl rfl, z_pre hK hR⟩ rfl rfl hl.1 rfl (lv_room (Nat.le_of_ble_eq_true rfl)) dX6_meets_48 ⟨Nat.zero_le _, Nat.zero_le _⟩) (fun r32 M31 H locs hR hS hF => ?_)
          refine lv_if_ne (tgt := 57) S.1 S.2.1 dX6_meets_51 (by decide) (fun hc33 => ?_) (fun hc33 => ?_)
          · replace hF := z_cf hF hc33
            refine lv_aload_n S.1 S.2.1 dX6_meets_57 rfl (lv_at hl 0 rfl) ?_
            refine z_get (k := 0) (i := 0) (f := 2) (v := .ref (g.1 15 0)) S hK hR (by decide) rfl rfl (by decide) wf_X6_22 rfl dX6_meets_58 ?_
            refine lv_aload_n S.1 S.2.1 dX6_meets_61 rfl (lv_at hl 0 rfl) ?_
            refine z_get (k := 0) (i := 0) (f := 0) (v := .ref (g.1 1 0)) S hK hR (by decide) rfl rfl (by decide) wf_X6_10 rfl dX6_meets_62 ?_
            refine z_gov hS hF (fun _ _ ho => va_runV (C := RX5) (n := 1) (As := [.ref (g.1 1 0)]) (rest := []) S (kX5_measure l hg (by decide) (by decide) ho) (cwV 1 S.2.2.2.2 (zgV wm_X6_170 oX5_measure) rfl rfl rfl hX5_measure ⟨Nat.le_of_ble_eq_true rfl, Nat.le_of_ble_eq_true rfl⟩) ⟨zPc_blind, z_recv hK hR (by decide) rfl rfl, z_pre hK hR⟩ rfl rfl hl.1 rfl (lv_room (Nat.le_of_ble_eq_true rfl)) dX6_meets_65 ⟨Nat.zero_le _, Nat.zero_le _⟩) (fun M34 H locs hR hS hF => ?_)
            refine lv_aload_n S.1 S.2.1 dX6_meets_68 rfl (lv_at hl 0 rfl) ?_
            refine z_get (k := 0) (i := 0) (f := 2) (v := .ref (g.1 15 0)) S hK hR (by decide) rfl rfl (by decide) wf_X6_22 rfl dX6_meets_69 ?_
            refine lv_iload_n S.1 S.2.1 dX6_meets_72 rfl (lv_at hl 1 rfl) ?_
            refine lv_iload_n S.1 S.2.1 dX6_meets_73 rfl (lv_at hl 2 rfl) ?_
            refine z_goi hS hF (fun _ _ ho => va_runV (C := RX5) (n := 2) (As := [.int v1, .int v2]) (rest := []) S (kX5_cross l hg (by decide) ho) (cwV 2 S.2.2.2.2 (zgV wm_X6_179 oX5_cross) rfl rfl rfl hX5_cross ⟨Nat.le_of_ble_eq_true rfl, Nat.le_of_ble_eq_true rfl⟩) ⟨zPc_blind, z_recv hK hR (by decide) rfl rfl, z_pre hK hR⟩ rfl rfl hl.1 rfl (lv_room (Nat.le_of_ble_eq_true rfl)) dX6_meets_74 ⟨Nat.zero_le _, Nat.zero_le _⟩) (fun r36 M35 H locs hR hS hF => ?_)
            refine lv_if_eq (tgt := 82) S.1 S.2.1 dX6_meets_77 (by decide) (fun hc37 => ?_) (fun hc37 => ?_)
            · replace hF := z_ct hF hc37
              refine lv_aload_n S.1 S.2.1 dX6_meets_82 rfl (lv_at hl 0 rfl) ?_
              refine z_get (k := 0) (i := 0) (f := 1) (v := .ref (g.1 1 1)) S hK hR (by decide) rfl rfl (by decide) wf_X6_16 rfl dX6_meets_83 ?_
              refine lv_aload_n S.1 S.2.1 dX6_meets_86 rfl (lv_at hl 0 rfl) ?_
              refine z_get (k := 0) (i := 0) (f := 0) (v := .ref (g.1 1 0)) S hK hR (by decide) rfl rfl (by decide) wf_X6_10 rfl dX6_meets_87 ?_
              refine z_gov hS hF (fun _ _ ho => va_runV (C := RX2) (n := 1) (As := [.ref (g.1 1 0)]) (rest := []) S (kX2_copyFrom l hg (by decide) (by decide) ho) (cwV 1 S.2.2.2.2 (zgV wm_X6_220 oX2_copyFrom) rfl rfl rfl hX2_copyFrom ⟨Nat.le_of_ble_eq_true rfl, Nat.le_of_ble_eq_true rfl⟩) ⟨zPc_blind, z_recv hK hR (by decide) rfl rfl, z_pre hK hR⟩ rfl rfl hl.1 rfl (lv_room (Nat.le_of_ble_eq_true rfl)) dX6_meets_90 ⟨Nat.zero_le _, Nat.zero_le _⟩) (fun M38 H locs hR hS hF => ?_)
              refine lv_iconst (v := 1) S.1 S.2.1 dX6_meets_93 (by decide) ?_
              refine lv_istore_n (lv' := [(3, .int 1), (0, .ref (g.1 0 0)), (1, .int v1), (2, .int v2)]) S.1 S.2.1 dX6_meets_94 rfl hl (by decide) rfl (fun ls hl => ?_)
              refine L95 _ _ _ (fun M45 v46 H locs hR hS ls hl hF => ?_) _ _ _ _ _ hR hS _ (lv_sub hl [1, 2, 3, 0] rfl) hF
              refine lv_bipush (v := (-6)) S.1 S.2.1 dX6_meets_136 (by decide) ?_
              exact z_iret S hr hlk hR hS hF dX6_meets_138
            · replace hF := z_cf hF hc37
              refine lv_iconst (v := 0) S.1 S.2.1 dX6_meets_80 (by decide) ?_
              exact z_iret S hr hlk hR hS hF dX6_meets_81
          · replace hF := z_ct hF hc33
            refine lv_bipush (v := (-5)) S.1 S.2.1 dX6_meets_54 (by decide) ?_
            exact z_iret S hr hlk hR hS hF dX6_meets_56
      · replace hF := z_ct hF hc27
        refine lv_bipush (v := (-2)) S.1 S.2.1 dX6_meets_29 (by decide) ?_
        exact z_iret S hr hlk hR hS hF dX6_meets_31
    · replace hF := z_ct hF hc26
      refine lv_iconst (v := (-1)) S.1 S.2.1 dX6_meets_22 (by decide) ?_
      exact z_iret S hr hlk hR hS hF dX6_meets_23
