theorem hX7_moves : yX7_moves.cls = RX7 ∧ yX7_moves.cls ≠ "java/lang/invoke/MethodHandle" ∧ yX7_moves.cls ≠ "java/lang/invoke/VarHandle" ∧ (parseMethodDescriptor yX7_moves.desc).map (fun d => d.parameters.length) = some 4 := by decide +kernel
theorem oX7_moves : Cond.static yX7_moves ∈ zT ∧ Cond.initialized RX7 ∈ zT ∧ Cond.code yX7_moves cX7_moves 5 none ∈ zT := ⟨ws_X7_moves, wi_X7, wk_X7_moves⟩
set_option maxRecDepth 100000 in
set_option maxHeartbeats 4000000 in
theorem kX7_moves (l : Launch) {g : zGeo} {z : Nat} (hg : zAd g z) {M M' : zM} {kf0 nf0 : Nat} (hk0 : 0 < zcnt kf0) (ha0 : zarr kf0 = some (0, nf0)) {v1 : Int32} {kf2 nf2 : Nat} (hk2 : 0 < zcnt kf2) (ha2 : zarr kf2 = some (0, nf2)) {v3 : Int32} {r : Unit} (hF : fX7_moves M kf0 nf0 v1 kf2 nf2 v3 = some (r, M')) : Met l yX7_moves [.code yX7_moves cX7_moves 5 none] { frames := 0, cells := 0, slots := 0, locals := 0 } (zPc g M [.ref (g.1 kf0 0), .int v1, .ref (g.1 kf2 0), .int v3]) (zQv g z M') 0 0 (zS z) := by
  refine z_enter (cc := cX7_moves) (maxL := 5) (ret := none) (by decide) rfl (Nat.le_of_ble_eq_true rfl) ?_
  intro p e s m below meth c S hr hlk hK hR hS ls hl
  have S : CallFix p m c cX7_moves 5 s _ zT RX7 := S
  have hl : lv_has ls 5 [(0, .ref (g.1 kf0 0)), (1, .int v1), (2, .ref (g.1 kf2 0)), (3, .int v3)] := hl
  have L3 : ∀ (k : zM → Int32 → Option (Unit × zM)) (a1 : Int32) (a3 : Int32), (∀ (M : zM) (a4 : Int32) (H : Heap) (locs : List Loc), zR g M H → va_S (zS z) s.heap H locs → ∀ ls : Array Slot, lv_has ls 5 [(0, .ref (g.1 kf0 0)), (1, .int a1), (2, .ref (g.1 kf2 0)), (3, .int a3), (4, .int a4)] → k M a4 = some (r, M') → W p l e { frames := 0, cells := 0, slots := 0, locals := 0 } s m ([.ref (g.1 kf0 0), .int v1, .ref (g.1 kf2 0), .int v3] : List Value).toArray below meth c H locs 0 0 (MQ below (zQv g z M') ([.ref (g.1 kf0 0), .int v1, .ref (g.1 kf2 0), .int v3] : List Value).toArray s 0 0 (zS z)) (F0 m 29 ls [])) → ∀ (n : Nat) (M : zM) (a4 : Int32) (H : Heap) (locs : List Loc), zR g M H → va_S (zS z) s.heap H locs → ∀ ls : Array Slot, lv_has ls 5 [(0, .ref (g.1 kf0 0)), (1, .int a1), (2, .ref (g.1 kf2 0)), (3, .int a3), (4, .int a4)] → fX7_moves_L3 k kf0 nf0 kf2 nf2 a1 a3 n M a4 = some (r, M') → W p l e { frames := 0, cells := 0, slots := 0, locals := 0 } s m ([.ref (g.1 kf0 0), .int v1, .ref (g.1 kf2 0), .int v3] : List Value).toArray below meth c H locs 0 0 (MQ below (zQv g z M') ([.ref (g.1 kf0 0), .int v1, .ref (g.1 kf2 0), .int v3] : List Value).toArray s 0 0 (zS z)) (F0 m 3 ls []) := by
    intro k a1 a3 hk n
    induction n with
    | zero =>
      intro M a4 H locs hR hS ls hl hF
      cases hF
    | succ n ih =>
      intro M a4 H locs hR hS ls hl hF
      unfold fX7_moves_L3 at hF
      refine lv_iload S.1 S.2.1 dX7_moves_3 (lv_at hl 4 rfl) ?_
      refine lv_sipush (v := 268) S.1 S.2.1 dX7_moves_5 (by decide) ?_
      refine lv_icmp_ge (tgt := 29) S.1 S.2.1 dX7_moves_8 (by decide) (fun hc => ?_) (fun hc => ?_)
      · replace hF := z_ct hF hc
        exact hk _ _ _ _ hR hS _ (lv_sub hl [0, 1, 2, 3, 4] rfl) hF
      · replace hF := z_cf hF hc
        refine lv_aload_n S.1 S.2.1 dX7_moves_11 rfl (lv_at hl 2 rfl) ?_
        refine lv_iload_n S.1 S.2.1 dX7_moves_12 rfl (lv_at hl 3 rfl) ?_
        refine lv_iload S.1 S.2.1 dX7_moves_13 (lv_at hl 4 rfl) ?_
        refine lv_iadd S.1 S.2.1 dX7_moves_15 ?_
        refine lv_aload_n S.1 S.2.1 dX7_moves_16 rfl (lv_at hl 0 rfl) ?_
        refine lv_iload_n S.1 S.2.1 dX7_moves_17 rfl (lv_at hl 1 rfl) ?_
        refine lv_iload S.1 S.2.1 dX7_moves_18 (lv_at hl 4 rfl) ?_
        refine lv_iadd S.1 S.2.1 dX7_moves_20 ?_
        refine z_iald (k := kf0) (i := 0) (n := nf0) S hK hR hF hk0 ha0 dX7_moves_21 (fun hF => ?_)
        refine z_iast (k := kf2) (i := 0) (n := nf2) S hg hK hR hS hF hk2 ha2 dX7_moves_22 (fun H locs M21 hR hS hF => ?_)
        obtain ⟨v22, ev22, hF⟩ := zL_out hF
        refine lv_iinc (v := v22) (lv' := [(4, .int v22), (0, .ref (g.1 kf0 0)), (1, .int a1), (2, .ref (g.1 kf2 0)), (3, .int a3)]) S.1 S.2.1 dX7_moves_23 hl (k := 4) rfl (by rw [← ev22]; rfl) (by decide) rfl (fun ls hl => ?_)
        refine lv_goto (tgt := 3) S.1 S.2.1 dX7_moves_26 (by decide) ?_
        exact ih _ _ _ _ hR hS _ (lv_sub hl [1, 2, 3, 4, 0] rfl) hF
  unfold fX7_moves at hF
  refine lv_iconst (v := 0) S.1 S.2.1 dX7_moves_0 (by decide) ?_
  refine lv_istore (lv' := [(4, .int 0), (0, .ref (g.1 kf0 0)), (1, .int v1), (2, .ref (g.1 kf2 0)), (3, .int v3)]) S.1 S.2.1 dX7_moves_1 hl (by decide) rfl (fun ls hl => ?_)
  refine L3 _ _ _ (fun M23 v24 H locs hR hS ls hl hF => ?_) _ _ _ _ _ hR hS _ (lv_sub hl [1, 2, 3, 4, 0] rfl) hF
  exact z_vret S hr hlk hR hS hF dX7_moves_29
theorem hX7_within : yX7_within.cls = RX7 ∧ yX7_within.cls ≠ "java/lang/invoke/MethodHandle" ∧ yX7_within.cls ≠ "java/lang/invoke/VarHandle" ∧ (parseMethodDescriptor yX7_within.desc).map (fun d => d.parameters.length) = some 3 := by decide +kernel
theorem oX7_within : Cond.static yX7_within ∈ zT ∧ Cond.initialized RX7 ∈ zT ∧ Cond.code yX7_within cX7_within 3 (some .boolean) ∈ zT := ⟨ws_X7_within, wi_X7, wk_X7_within⟩
set_option maxRecDepth 100000 in
set_option maxHeartbeats 4000000 in
theorem kX7_within (l : Launch) {g : zGeo} {z : Nat} (hg : zAd g z) {M M' : zM} {v0 : Int32} {v1 : Int32} {v2 : Int32} {r : Int32} (hF : fX7_within M v0 v1 v2 = some (r, M')) : Met l yX7_within [.code yX7_within cX7_within 3 (some .boolean)] { frames := 0, cells := 0, slots := 0, locals := 0 } (zPc g M [.int v0, .int v1, .int v2]) (zQi g z r M') 0 0 (zS z) := by
  refine z_enter (cc := cX7_within) (maxL := 3) (ret := (some .boolean)) (by decide) rfl (Nat.le_of_ble_eq_true rfl) ?_
  intro p e s m below meth c S hr hlk hK hR hS ls hl
  have S : CallFix p m c cX7_within 3 s _ zT RX7 := S
  have hl : lv_has ls 3 [(0, .int v0), (1, .int v1), (2, .int v2)] := hl
  unfold fX7_within at hF
  refine lv_iload_n S.1 S.2.1 dX7_within_0 rfl (lv_at hl 0 rfl) ?_
  refine lv_iload_n S.1 S.2.1 dX7_within_1 rfl (lv_at hl 1 rfl) ?_
  refine lv_icmp_lt (tgt := 14) S.1 S.2.1 dX7_within_2 (by decide) (fun hc => ?_) (fun hc => ?_)
  · replace hF := z_ct hF hc
    refine lv_iconst (v := 0) S.1 S.2.1 dX7_within_14 (by decide) ?_
    exact z_zretc S hr hlk hR hS (by decide) hF dX7_within_15
  · replace hF := z_cf hF hc
    refine lv_iload_n S.1 S.2.1 dX7_within_5 rfl (lv_at hl 0 rfl) ?_
    refine lv_iload_n S.1 S.2.1 dX7_within_6 rfl (lv_at hl 2 rfl) ?_
    refine lv_icmp_gt (tgt := 14) S.1 S.2.1 dX7_within_7 (by decide) (fun hc => ?_) (fun hc => ?_)
    · replace hF := z_ct hF hc
      refine lv_iconst (v := 0) S.1 S.2.1 dX7_within_14 (by decide) ?_
      exact z_zretc S hr hlk hR hS (by decide) hF dX7_within_15
    · replace hF := z_cf hF hc
      refine lv_iconst (v := 1) S.1 S.2.1 dX7_within_10 (by decide) ?_
      refine lv_goto (tgt := 15) S.1 S.2.1 dX7_within_11 (by decide) ?_
      exact z_zretc S hr hlk hR hS (by decide) hF dX7_within_15
theorem hX7_size : yX7_size.cls = RX7 ∧ yX7_size.cls ≠ "java/lang/invoke/MethodHandle" ∧ yX7_size.cls ≠ "java/lang/invoke/VarHandle" ∧ (parseMethodDescriptor yX7_size.desc).map (fun d => d.parameters.length) = some 1 := by decide +kernel
theorem oX7_size : Cond.static yX7_size ∈ zT ∧ Cond.initialized RX7 ∈ zT ∧ Cond.code yX7_size cX7_size 1 (some .int) ∈ zT := ⟨ws_X7_size, wi_X7, wk_X7_size⟩
set_option maxRecDepth 100000 in
set_option maxHeartbeats 4000000 in
theorem kX7_size (l : Launch) {g : zGeo} {z : Nat} (hg : zAd g z) {M M' : zM} {v0 : Int32} {r : Int32} (hF : fX7_size M v0 = some (r, M')) : Met l yX7_size [.code yX7_size cX7_size 1 (some .int)] { frames := 0, cells := 0, slots := 0, locals := 0 } (zPc g M [.int v0]) (zQi g z r M') 0 0 (zS z) := by
  refine z_enter (cc := cX7_size) (maxL := 1) (ret := (some .int)) (by decide) rfl (Nat.le_of_ble_eq_true rfl) ?_
  intro p e s m below meth c S hr hlk hK hR hS ls hl
  have S : CallFix p m c cX7_size 1 s _ zT RX7 := S
  have hl : lv_has ls 1 [(0, .int v0)] := hl
  unfold fX7_size at hF
  refine lv_iload_n S.1 S.2.1 dX7_size_0 rfl (lv_at hl 0 rfl) ?_
  refine lv_if_ge (tgt := 9) S.1 S.2.1 dX7_size_1 (by decide) (fun hc => ?_) (fun hc => ?_)
  · replace hF := z_ct hF hc
    refine lv_iload_n S.1 S.2.1 dX7_size_9 rfl (lv_at hl 0 rfl) ?_
    exact z_iret S hr hlk hR hS hF dX7_size_10
  · replace hF := z_cf hF hc
    refine lv_iload_n S.1 S.2.1 dX7_size_4 rfl (lv_at hl 0 rfl) ?_
    refine lv_ineg S.1 S.2.1 dX7_size_5 ?_
    refine lv_goto (tgt := 10) S.1 S.2.1 dX7_size_6 (by decide) ?_
    exact z_iret S hr hlk hR hS hF dX7_size_10
theorem hX7_record : yX7_record.cls = RX7 ∧ yX7_record.cls ≠ "java/lang/invoke/MethodHandle" ∧ yX7_record.cls ≠ "java/lang/invoke/VarHandle" ∧ (parseMethodDescriptor yX7_record.desc).map (fun d => d.parameters.length) = some 0 := by decide +kernel
theorem oX7_record : Cond.instanceMethod yX7_record ∈ zT ∧ Cond.selects RX7 yX7_record yX7_record ∈ zT ∧ Cond.initialized RX7 ∈ zT ∧ Cond.code yX7_record cX7_record 2 none ∈ zT := ⟨wv_X7_record, we_X7_record, wi_X7, wk_X7_record⟩
set_option maxRecDepth 100000 in
set_option maxHeartbeats 4000000 in
theorem kX7_record (l : Launch) {g : zGeo} {z : Nat} (hg : zAd g z) {M M' : zM}  {r : Unit} (hF : fX7_record M = some (r, M')) : Met l yX7_record [.code yX7_record cX7_record 2 none] { frames := 1, cells := 0, slots := 0, locals := 24 } (zPc g M [.ref (g.1 26 0)]) (zQv g z M') 0 0 (zS z) := by
  refine z_enter (cc := cX7_record) (maxL := 2) (ret := none) (by decide) rfl (Nat.le_of_ble_eq_true rfl) ?_
  intro p e s m below meth c S hr hlk hK hR hS ls hl
  have S : CallFix p m c cX7_record 2 s _ zT RX7 := S
  have hl : lv_has ls 2 [(0, .ref (g.1 26 0))] := hl
  have L11 : ∀ (k : zM → Int32 → Option (Unit × zM)) , (∀ (M : zM) (a1 : Int32) (H : Heap) (locs : List Loc), zR g M H → va_S (zS z) s.heap H locs → ∀ ls : Array Slot, lv_has ls 2 [(0, .ref (g.1 26 0)), (1, .int a1)] → k M a1 = some (r, M') → W p l e { frames := 1, cells := 0, slots := 0, locals := 24 } s m ([.ref (g.1 26 0)] : List Value).toArray below meth c H locs 0 0 (MQ below (zQv g z M') ([.ref (g.1 26 0)] : List Value).toArray s 0 0 (zS z)) (F0 m 40 ls [])) → ∀ (n : Nat) (M : zM) (a1 : Int32) (H : Heap) (locs : List Loc), zR g M H → va_S (zS z) s.heap H locs → ∀ ls : Array Slot, lv_has ls 2 [(0, .ref (g.1 26 0)), (1, .int a1)] → fX7_record_L11 k n M a1 = some (r, M') → W p l e { frames := 1, cells := 0, slots := 0, locals := 24 } s m ([.ref (g.1 26 0)] : List Value).toArray below meth c H locs 0 0 (MQ below (zQv g z M') ([.ref (g.1 26 0)] : List Value).toArray s 0 0 (zS z)) (F0 m 11 ls []) := by
    intro k  hk n
    induction n with
    | zero =>
      intro M a1 H locs hR hS ls hl hF
      cases hF
    | succ n ih =>
      intro M a1 H locs hR hS ls hl hF
      unfold fX7_record_L11 at hF
      refine lv_iload_n S.1 S.2.1 dX7_record_11 rfl (lv_at hl 1 rfl) ?_
      refine lv_sipush (v := 1340) S.1 S.2.1 dX7_record_12 (by decide) ?_
      refine lv_icmp_ge (tgt := 40) S.1 S.2.1 dX7_record_15 (by decide) (fun hc => ?_) (fun hc => ?_)
      · replace hF := z_ct hF hc
        exact hk _ _ _ _ hR hS _ (lv_sub hl [0, 1] rfl) hF
      · replace hF := z_cf hF hc
        refine lv_aload_n S.1 S.2.1 dX7_record_18 rfl (lv_at hl 0 rfl) ?_
        refine z_get (k := 26) (i := 0) (f := 2) (v := .ref (g.1 29 0)) S hK hR (by decide) rfl rfl (by decide) wf_X7_16 rfl dX7_record_19 ?_
        refine lv_iload_n S.1 S.2.1 dX7_record_22 rfl (lv_at hl 1 rfl) ?_
        refine lv_aload_n S.1 S.2.1 dX7_record_23 rfl (lv_at hl 0 rfl) ?_
        refine z_get (k := 26) (i := 0) (f := 2) (v := .ref (g.1 29 0)) S hK hR (by decide) rfl rfl (by decide) wf_X7_16 rfl dX7_record_24 ?_
        refine lv_iload_n S.1 S.2.1 dX7_record_27 rfl (lv_at hl 1 rfl) ?_
        refine lv_sipush (v := 268) S.1 S.2.1 dX7_record_28 (by decide) ?_
        refine lv_iadd S.1 S.2.1 dX7_record_31 ?_
        refine z_iald (k := 29) (i := 0) (n := 1608) S hK hR hF (by decide) rfl dX7_record_32 (fun hF => ?_)
        refine z_iast (k := 29) (i := 0) (n := 1608) S hg hK hR hS hF (by decide) rfl dX7_record_33 (fun H locs M23 hR hS hF => ?_)
        obtain ⟨v24, ev24, hF⟩ := zL_out hF
        refine lv_iinc (v := v24) (lv' := [(1, .int v24), (0, .ref (g.1 26 0))]) S.1 S.2.1 dX7_record_34 hl (k := 1) rfl (by rw [← ev24]; rfl) (by decide) rfl (fun ls hl => ?_)
        refine lv_goto (tgt := 11) S.1 S.2.1 dX7_record_37 (by decide) ?_
        exact ih _ _ _ _ hR hS _ (lv_sub hl [1, 0] rfl) hF
  unfold fX7_record at hF
  refine lv_aload_n S.1 S.2.1 dX7_record_0 rfl (lv_at hl 0 rfl) ?_
  refine z_get (k := 26) (i := 0) (f := 3) (v := .int (M 26 0 3)) S hK hR (by decide) rfl rfl (by decide) wf_X7_31 rfl dX7_record_1 ?_
  refine lv_bipush (v := 6) S.1 S.2.1 dX7_record_4 (by decide) ?_
  refine lv_icmp_ne (tgt := 50) S.1 S.2.1 dX7_record_6 (by decide) (fun hc => ?_) (fun hc => ?_)
  · replace hF := z_cf hF hc
    refine lv_aload_n S.1 S.2.1 dX7_record_50 rfl (lv_at hl 0 rfl) ?_
    refine z_get (k := 26) (i := 0) (f := 0) (v := .ref (g.1 27 0)) S hK hR (by decide) rfl rfl (by decide) wf_X7_7 rfl dX7_record_51 ?_
    refine lv_iconst (v := 0) S.1 S.2.1 dX7_record_54 (by decide) ?_
    refine lv_aload_n S.1 S.2.1 dX7_record_55 rfl (lv_at hl 0 rfl) ?_
    refine z_get (k := 26) (i := 0) (f := 2) (v := .ref (g.1 29 0)) S hK hR (by decide) rfl rfl (by decide) wf_X7_16 rfl dX7_record_56 ?_
    refine lv_aload_n S.1 S.2.1 dX7_record_59 rfl (lv_at hl 0 rfl) ?_
    refine z_get (k := 26) (i := 0) (f := 3) (v := .int (M 26 0 3)) S hK hR (by decide) rfl rfl (by decide) wf_X7_31 rfl dX7_record_60 ?_
    refine lv_sipush (v := 268) S.1 S.2.1 dX7_record_63 (by decide) ?_
    refine lv_imul S.1 S.2.1 dX7_record_66 ?_
    refine z_gov hS hF (fun _ _ ho => va_runS (n := 4) (As := [.ref (g.1 27 0), .int 0, .ref (g.1 29 0), .int ((M 26 0 3) * 268)]) (rest := []) S (kX7_moves l hg (by decide) rfl (by decide) rfl ho) (va_cwS 4 S.2.2.2.2 (zgS wm_X7_35 oX7_moves) rfl rfl rfl hX7_moves.2 ⟨Nat.le_of_ble_eq_true rfl, Nat.le_of_ble_eq_true rfl⟩) ⟨zPc_blind, z_pre hK hR⟩ rfl rfl hl.1 rfl (lv_room (Nat.le_of_ble_eq_true rfl)) dX7_record_67 ⟨Nat.zero_le _, Nat.zero_le _⟩) (fun M21 H locs hR hS hF => ?_)
    refine lv_aload_n S.1 S.2.1 dX7_record_70 rfl (lv_at hl 0 rfl) ?_
    refine lv_dup S.1 S.2.1 dX7_record_71 rfl ?_
    refine z_get (k := 26) (i := 0) (f := 3) (v := .int (M21 26 0 3)) S hK hR (by decide) rfl rfl (by decide) wf_X7_31 rfl dX7_record_72 ?_
    refine lv_iconst (v := 1) S.1 S.2.1 dX7_record_75 (by decide) ?_
    refine lv_iadd S.1 S.2.1 dX7_record_76 ?_
    refine z_put (k := 26) (i := 0) (f := 3) (ty := .int) S hg hK hR hS hF (by decide) rfl rfl rfl (by decide) wf_X7_31 rfl (by decide +kernel) rfl rfl (Nat.le_of_ble_eq_true rfl) dX7_record_77 (fun H locs M22 hR hS hF => ?_)
    exact z_vret S hr hlk hR hS hF dX7_record_80
  · replace hF := z_ct hF hc
    refine lv_iconst (v := 0) S.1 S.2.1 dX7_record_9 (by decide) ?_
    refine lv_istore_n (lv' := [(1, .int 0), (0, .ref (g.1 26 0))]) S.1 S.2.1 dX7_record_10 rfl hl (by decide) rfl (fun ls hl => ?_)
    refine L11 _ (fun M25 v26 H locs hR hS ls hl hF => ?_) _ _ _ _ _ hR hS _ (lv_sub hl [1, 0] rfl) hF
    refine lv_aload_n S.1 S.2.1 dX7_record_40 rfl (lv_at hl 0 rfl) ?_
    refine lv_dup S.1 S.2.1 dX7_record_41 rfl ?_
    refine z_get (k := 26) (i := 0) (f := 3) (v := .int (M25 26 0 3)) S hK hR (by decide) rfl rfl (by decide) wf_X7_31 rfl dX7_record_42 ?_
    refine lv_iconst (v := 1) S.1 S.2.1 dX7_record_45 (by decide) ?_
    refine lv_isub S.1 S.2.1 dX7_record_46 ?_
    refine z_put (k := 26) (i := 0) (f := 3) (ty := .int) S hg hK hR hS hF (by decide) rfl rfl rfl (by decide) wf_X7_31 rfl (by decide +kernel) rfl rfl (Nat.le_of_ble_eq_true rfl) dX7_record_47 (fun H locs M27 hR hS hF => ?_)
    refine lv_aload_n S.1 S.2.1 dX7_record_50 rfl (lv_at hl 0 rfl) ?_
    refine z_get (k := 26) (i := 0) (f := 0) (v := .ref (g.1 27 0)) S hK hR (by decide) rfl rfl (by decide) wf_X7_7 rfl dX7_record_51 ?_
    refine lv_iconst (v := 0) S.1 S.2.1 dX7_record_54 (by decide) ?_
    refine lv_aload_n S.1 S.2.1 dX7_record_55 rfl (lv_at hl 0 rfl) ?_
    refine z_get (k := 26) (i := 0) (f := 2) (v := .ref (g.1 29 0)) S hK hR (by decide) rfl rfl (by decide) wf_X7_16 rfl dX7_record_56 ?_
    refine lv_aload_n S.1 S.2.1 dX7_record_59 rfl (lv_at hl 0 rfl) ?_
    refine z_get (k := 26) (i := 0) (f := 3) (v := .int (M27 26 0 3)) S hK hR (by decide) rfl rfl (by decide) wf_X7_31 rfl dX7_record_60 ?_
    refine lv_sipush (v := 268) S.1 S.2.1 dX7_record_63 (by decide) ?_
    refine lv_imul S.1 S.2.1 dX7_record_66 ?_
    refine z_gov hS hF (fun _ _ ho => va_runS (n := 4) (As := [.ref (g.1 27 0), .int 0, .ref (g.1 29 0), .int ((M27 26 0 3) * 268)]) (rest := []) S (kX7_moves l hg (by decide) rfl (by decide) rfl ho) (va_cwS 4 S.2.2.2.2 (zgS wm_X7_35 oX7_moves) rfl rfl rfl hX7_moves.2 ⟨Nat.le_of_ble_eq_true rfl, Nat.le_of_ble_eq_true rfl⟩) ⟨zPc_blind, z_pre hK hR⟩ rfl rfl hl.1 rfl (lv_room (Nat.le_of_ble_eq_true rfl)) dX7_record_67 ⟨Nat.zero_le _, Nat.zero_le _⟩) (fun M28 H locs hR hS hF => ?_)
    refine lv_aload_n S.1 S.2.1 dX7_record_70 rfl (lv_at hl 0 rfl) ?_
    refine lv_dup S.1 S.2.1 dX7_record_71 rfl ?_
    refine z_get (k := 26) (i := 0) (f := 3) (v := .int (M28 26 0 3)) S hK hR (by decide) rfl rfl (by decide) wf_X7_31 rfl dX7_record_72 ?_
    refine lv_iconst (v := 1) S.1 S.2.1 dX7_record_75 (by decide) ?_
    refine lv_iadd S.1 S.2.1 dX7_record_76 ?_
    refine z_put (k := 26) (i := 0) (f := 3) (ty := .int) S hg hK hR hS hF (by decide) rfl rfl rfl (by decide) wf_X7_31 rfl (by decide +kernel) rfl rfl (Nat.le_of_ble_eq_true rfl) dX7_record_77 (fun H locs M29 hR hS hF => ?_)
    exact z_vret S hr hlk hR hS hF dX7_record_80
theorem hX7_isKite : yX7_isKite.cls = RX7 ∧ yX7_isKite.cls ≠ "java/lang/invoke/MethodHandle" ∧ yX7_isKite.cls ≠ "java/lang/invoke/VarHandle" ∧ (parseMethodDescriptor yX7_isKite.desc).map (fun d => d.parameters.length) = some 1 := by decide +kernel
theorem oX7_isKite : Cond.instanceMethod yX7_isKite ∈ zT ∧ Cond.selects RX7 yX7_isKite yX7_isKite ∈ zT ∧ Cond.initialized RX7 ∈ zT ∧ Cond.code yX7_isKite cX7_isKite 2 (some .boolean) ∈ zT := ⟨wv_X7_isKite, we_X7_isKite, wi_X7, wk_X7_isKite⟩
set_option maxRecDepth 100000 in
set_option maxHeartbeats 4000000 in
theorem kX7_isKite (l : Launch) {g : zGeo} {z : Nat} (hg : zAd g z) {M M' : zM} {v1 : Int32} {r : Int32} (hF : fX7_isKite M v1 = some (r, M')) : Met l yX7_isKite [.code yX7_isKite cX7_isKite 2 (some .boolean)] { frames := 1, cells := 0, slots := 0, locals := 22 } (zPc g M [.ref (g.1 26 0), .int v1]) (zQi g z r M') 0 0 (zS z) := by
  refine z_enter (cc := cX7_isKite) (maxL := 2) (ret := (some .boolean)) (by decide) rfl (Nat.le_of_ble_eq_true rfl) ?_
  intro p e s m below meth c S hr hlk hK hR hS ls hl
  have S : CallFix p m c cX7_isKite 2 s _ zT RX7 := S
  have hl : lv_has ls 2 [(0, .ref (g.1 26 0)), (1, .int v1)] := hl
  unfold fX7_isKite at hF
  refine lv_iload_n S.1 S.2.1 dX7_isKite_0 rfl (lv_at hl 1 rfl) ?_
  refine lv_iconst (v := 0) S.1 S.2.1 dX7_isKite_1 (by decide) ?_
  refine lv_aload_n S.1 S.2.1 dX7_isKite_2 rfl (lv_at hl 0 rfl) ?_
  refine z_get (k := 26) (i := 0) (f := 0) (v := .ref (g.1 27 0)) S hK hR (by decide) rfl rfl (by decide) wf_X7_7 rfl dX7_isKite_3 ?_
  refine lv_iconst (v := 0) S.1 S.2.1 dX7_isKite_6 (by decide) ?_
  refine z_iald (k := 27) (i := 0) (n := 268) S hK hR hF (by decide) rfl dX7_isKite_7 (fun hF => ?_)
  refine lv_iconst (v := 1) S.1 S.2.1 dX7_isKite_8 (by decide) ?_
  refine lv_isub S.1 S.2.1 dX7_isKite_9 ?_
  refine z_goi hS hF (fun _ _ ho => va_runS (n := 3) (As := [.int v1, .int 0, .int ((M 27 0 (zN 0)) - 1)]) (rest := []) S (kX7_within l hg ho) (va_cwS 3 S.2.2.2.2 (zgS wm_X7_39 oX7_within) rfl rfl rfl hX7_within.2 ⟨Nat.le_of_ble_eq_true rfl, Nat.le_of_ble_eq_true rfl⟩) ⟨zPc_blind, z_pre hK hR⟩ rfl rfl hl.1 rfl (lv_room (Nat.le_of_ble_eq_true rfl)) dX7_isKite_10 ⟨Nat.zero_le _, Nat.zero_le _⟩) (fun r22 M21 H locs hR hS hF => ?_)
  exact z_zret S hr hlk hR hS hF dX7_isKite_13
theorem hX7_part : yX7_part.cls = RX7 ∧ yX7_part.cls ≠ "java/lang/invoke/MethodHandle" ∧ yX7_part.cls ≠ "java/lang/invoke/VarHandle" ∧ (parseMethodDescriptor yX7_part.desc).map (fun d => d.parameters.length) = some 2 := by decide +kernel
theorem oX7_part : Cond.instanceMethod yX7_part ∈ zT ∧ Cond.selects RX7 yX7_part yX7_part ∈ zT ∧ Cond.initialized RX7 ∈ zT ∧ Cond.code yX7_part cX7_part 3 (some .int) ∈ zT := ⟨wv_X7_part, we_X7_part, wi_X7, wk_X7_part⟩
set_option maxRecDepth 100000 in
set_option maxHeartbeats 4000000 in
theorem kX7_part (l : Launch) {g : zGeo} {z : Nat} (hg : zAd g z) {M M' : zM} {v1 : Int32} {v2 : Int32} {r : Int32} (hF : fX7_part M v1 v2 = some (r, M')) : Met l yX7_part [.code yX7_part cX7_part 3 (some .int)] { frames := 0, cells := 0, slots := 0, locals := 0 } (zPc g M [.ref (g.1 26 0), .int v1, .int v2]) (zQi g z r M') 0 0 (zS z) := by
  refine z_enter (cc := cX7_part) (maxL := 3) (ret := (some .int)) (by decide) rfl (Nat.le_of_ble_eq_true rfl) ?_
  intro p e s m below meth c S hr hlk hK hR hS ls hl
  have S : CallFix p m c cX7_part 3 s _ zT RX7 := S
  have hl : lv_has ls 3 [(0, .ref (g.1 26 0)), (1, .int v1), (2, .int v2)] := hl
  unfold fX7_part at hF
  refine lv_aload_n S.1 S.2.1 dX7_part_0 rfl (lv_at hl 0 rfl) ?_
  refine z_get (k := 26) (i := 0) (f := 0) (v := .ref (g.1 27 0)) S hK hR (by decide) rfl rfl (by decide) wf_X7_7 rfl dX7_part_1 ?_
  refine lv_iconst (v := 4) S.1 S.2.1 dX7_part_4 (by decide) ?_
  refine lv_bipush (v := 44) S.1 S.2.1 dX7_part_5 (by decide) ?_
  refine lv_iload_n S.1 S.2.1 dX7_part_7 rfl (lv_at hl 1 rfl) ?_
  refine lv_imul S.1 S.2.1 dX7_part_8 ?_
  refine lv_iadd S.1 S.2.1 dX7_part_9 ?_
  refine lv_iload_n S.1 S.2.1 dX7_part_10 rfl (lv_at hl 2 rfl) ?_
  refine lv_iadd S.1 S.2.1 dX7_part_11 ?_
  refine z_iald (k := 27) (i := 0) (n := 268) S hK hR hF (by decide) rfl dX7_part_12 (fun hF => ?_)
  exact z_iret S hr hlk hR hS hF dX7_part_13
theorem hX7_setPart : yX7_setPart.cls = RX7 ∧ yX7_setPart.cls ≠ "java/lang/invoke/MethodHandle" ∧ yX7_setPart.cls ≠ "java/lang/invoke/VarHandle" ∧ (parseMethodDescriptor yX7_setPart.desc).map (fun d => d.parameters.length) = some 3 := by decide +kernel
theorem oX7_setPart : Cond.instanceMethod yX7_setPart ∈ zT ∧ Cond.selects RX7 yX7_setPart yX7_setPart ∈ zT ∧ Cond.initialized RX7 ∈ zT ∧ Cond.code yX7_setPart cX7_setPart 4 none ∈ zT := ⟨wv_X7_setPart, we_X7_setPart, wi_X7, wk_X7_setPart⟩
set_option maxRecDepth 100000 in
set_option maxHeartbeats 4000000 in
theorem kX7_setPart (l : Launch) {g : zGeo} {z : Nat} (hg : zAd g z) {M M' : zM} {v1 : Int32} {v2 : Int32} {v3 : Int32} {r : Unit} (hF : fX7_setPart M v1 v2 v3 = some (r, M')) : Met l yX7_setPart [.code yX7_setPart cX7_setPart 4 none] { frames := 0, cells := 0, slots := 0, locals := 0 } (zPc g M [.ref (g.1 26 0), .int v1, .int v2, .int v3]) (zQv g z M') 0 0 (zS z) := by
  refine z_enter (cc := cX7_setPart) (maxL := 4) (ret := none) (by decide) rfl (Nat.le_of_ble_eq_true rfl) ?_
  intro p e s m below meth c S hr hlk hK hR hS ls hl
  have S : CallFix p m c cX7_setPart 4 s _ zT RX7 := S
  have hl : lv_has ls 4 [(0, .ref (g.1 26 0)), (1, .int v1), (2, .int v2), (3, .int v3)] := hl
  unfold fX7_setPart at hF
  refine lv_aload_n S.1 S.2.1 dX7_setPart_0 rfl (lv_at hl 0 rfl) ?_
  refine z_get (k := 26) (i := 0) (f := 0) (v := .ref (g.1 27 0)) S hK hR (by decide) rfl rfl (by decide) wf_X7_7 rfl dX7_setPart_1 ?_
  refine lv_iconst (v := 4) S.1 S.2.1 dX7_setPart_4 (by decide) ?_
  refine lv_bipush (v := 44) S.1 S.2.1 dX7_setPart_5 (by decide) ?_
  refine lv_iload_n S.1 S.2.1 dX7_setPart_7 rfl (lv_at hl 1 rfl) ?_
  refine lv_imul S.1 S.2.1 dX7_setPart_8 ?_
  refine lv_iadd S.1 S.2.1 dX7_setPart_9 ?_
  refine lv_iload_n S.1 S.2.1 dX7_setPart_10 rfl (lv_at hl 2 rfl) ?_
  refine lv_iadd S.1 S.2.1 dX7_setPart_11 ?_
  refine lv_iload_n S.1 S.2.1 dX7_setPart_12 rfl (lv_at hl 3 rfl) ?_
  refine z_iast (k := 27) (i := 0) (n := 268) S hg hK hR hS hF (by decide) rfl dX7_setPart_13 (fun H locs M21 hR hS hF => ?_)
  exact z_vret S hr hlk hR hS hF dX7_setPart_14
theorem hX7_flies : yX7_flies.cls = RX7 ∧ yX7_flies.cls ≠ "java/lang/invoke/MethodHandle" ∧ yX7_flies.cls ≠ "java/lang/invoke/VarHandle" ∧ (parseMethodDescriptor yX7_flies.desc).map (fun d => d.parameters.length) = some 1 := by decide +kernel
theorem oX7_flies : Cond.instanceMethod yX7_flies ∈ zT ∧ Cond.selects RX7 yX7_flies yX7_flies ∈ zT ∧ Cond.initialized RX7 ∈ zT ∧ Cond.code yX7_flies cX7_flies 2 (some .boolean) ∈ zT := ⟨wv_X7_flies, we_X7_flies, wi_X7, wk_X7_flies⟩
set_option maxRecDepth 100000 in
set_option maxHeartbeats 4000000 in
theorem kX7_flies (l : Launch) {g : zGeo} {z : Nat} (hg : zAd g z) {M M' : zM} {v1 : Int32} {r : Int32} (hF : fX7_flies M v1 = some (r, M')) : Met l yX7_flies [.code yX7_flies cX7_flies 2 (some .boolean)] { frames := 1, cells := 0, slots := 0, locals := 22 } (zPc g M [.ref (g.1 26 0), .int v1]) (zQi g z r M') 0 0 (zS z) := by
  refine z_enter (cc := cX7_flies) (maxL := 2) (ret := (some .boolean)) (by decide) rfl (Nat.le_of_ble_eq_true rfl) ?_
  intro p e s m below meth c S hr hlk hK hR hS ls hl
  have S : CallFix p m c cX7_flies 2 s _ zT RX7 := S
  have hl : lv_has ls 2 [(0, .ref (g.1 26 0)), (1, .int v1)] := hl
  unfold fX7_flies at hF
  refine lv_aload_n S.1 S.2.1 dX7_flies_0 rfl (lv_at hl 0 rfl) ?_
  refine lv_iload_n S.1 S.2.1 dX7_flies_1 rfl (lv_at hl 1 rfl) ?_
  refine lv_bipush (v := 8) S.1 S.2.1 dX7_flies_2 (by decide) ?_
  refine z_goi hS hF (fun _ _ ho => va_runV (C := RX7) (n := 2) (As := [.int v1, .int 8]) (rest := []) S (kX7_part l hg ho) (cwV 2 S.2.2.2.2 (zgV wm_X7_43 oX7_part) rfl rfl rfl hX7_part ⟨Nat.le_of_ble_eq_true rfl, Nat.le_of_ble_eq_true rfl⟩) ⟨zPc_blind, z_recv hK hR (by decide) rfl rfl, z_pre hK hR⟩ rfl rfl hl.1 rfl (lv_room (Nat.le_of_ble_eq_true rfl)) dX7_flies_4 ⟨Nat.zero_le _, Nat.zero_le _⟩) (fun r22 M21 H locs hR hS hF => ?_)
  refine lv_if_ne (tgt := 14) S.1 S.2.1 dX7_flies_7 (by decide) (fun hc => ?_) (fun hc => ?_)
  · replace hF := z_cf hF hc
    refine lv_iconst (v := 0) S.1 S.2.1 dX7_flies_14 (by decide) ?_
    exact z_zretc S hr hlk hR hS (by decide) hF dX7_flies_15
  · replace hF := z_ct hF hc
    refine lv_iconst (v := 1) S.1 S.2.1 dX7_flies_10 (by decide) ?_
    refine lv_goto (tgt := 15) S.1 S.2.1 dX7_flies_11 (by decide) ?_
    exact z_zretc S hr hlk hR hS (by decide) hF dX7_flies_15
theorem hX7_greatestWear : yX7_greatestWear.cls = RX7 ∧ yX7_greatestWear.cls ≠ "java/lang/invoke/MethodHandle" ∧ yX7_greatestWear.cls ≠ "java/lang/invoke/VarHandle" ∧ (parseMethodDescriptor yX7_greatestWear.desc).map (fun d => d.parameters.length) = some 1 := by decide +kernel
theorem oX7_greatestWear : Cond.instanceMethod yX7_greatestWear ∈ zT ∧ Cond.selects RX7 yX7_greatestWear yX7_greatestWear ∈ zT ∧ Cond.initialized RX7 ∈ zT ∧ Cond.code yX7_greatestWear cX7_greatestWear 4 (some .int) ∈ zT := ⟨wv_X7_greatestWear, we_X7_greatestWear, wi_X7, wk_X7_greatestWear⟩
set_option maxRecDepth 100000 in
set_option maxHeartbeats 4000000 in
theorem kX7_greatestWear (l : Launch) {g : zGeo} {z : Nat} (hg : zAd g z) {M M' : zM} {v1 : Int32} {r : Int32} (hF : fX7_greatestWear M v1 = some (r, M')) : Met l yX7_greatestWear [.code yX7_greatestWear cX7_greatestWear 4 (some .int)] { frames := 1, cells := 0, slots := 0, locals := 22 } (zPc g M [.ref (g.1 26 0), .int v1]) (zQi g z r M') 0 0 (zS z) := by
  refine z_enter (cc := cX7_greatestWear) (maxL := 4) (ret := (some .int)) (by decide) rfl (Nat.le_of_ble_eq_true rfl) ?_
  intro p e s m below meth c S hr hlk hK hR hS ls hl
  have S : CallFix p m c cX7_greatestWear 4 s _ zT RX7 := S
  have hl : lv_has ls 4 [(0, .ref (g.1 26 0)), (1, .int v1)] := hl
  have L4 : ∀ (k : zM → Int32 → Int32 → Option (Int32 × zM)) (a1 : Int32), (∀ (M : zM) (a2 : Int32) (a3 : Int32) (H : Heap) (locs : List Loc), zR g M H → va_S (zS z) s.heap H locs → ∀ ls : Array Slot, lv_has ls 4 [(0, .ref (g.1 26 0)), (1, .int a1), (2, .int a2), (3, .int a3)] → k M a2 a3 = some (r, M') → W p l e { frames := 1, cells := 0, slots := 0, locals := 22 } s m ([.ref (g.1 26 0), .int v1] : List Value).toArray below meth c H locs 0 0 (MQ below (zQi g z r M') ([.ref (g.1 26 0), .int v1] : List Value).toArray s 0 0 (zS z)) (F0 m 43 ls [])) → ∀ (n : Nat) (M : zM) (a2 : Int32) (a3 : Int32) (H : Heap) (locs : List Loc), zR g M H → va_S (zS z) s.heap H locs → ∀ ls : Array Slot, lv_has ls 4 [(0, .ref (g.1 26 0)), (1, .int a1), (2, .int a2), (3, .int a3)] → fX7_greatestWear_L4 k a1 n M a2 a3 = some (r, M') → W p l e { frames := 1, cells := 0, slots := 0, locals := 22 } s m ([.ref (g.1 26 0), .int v1] : List Value).toArray below meth c H locs 0 0 (MQ below (zQi g z r M') ([.ref (g.1 26 0), .int v1] : List Value).toArray s 0 0 (zS z)) (F0 m 4 ls []) := by
    intro k a1 hk n
    induction n with
    | zero =>
      intro M a2 a3 H locs hR hS ls hl hF
      cases hF
    | succ n ih =>
      intro M a2 a3 H locs hR hS ls hl hF
      unfold fX7_greatestWear_L4 at hF
      refine lv_iload_n S.1 S.2.1 dX7_greatestWear_4 rfl (lv_at hl 3 rfl) ?_
      refine lv_bipush (v := 32) S.1 S.2.1 dX7_greatestWear_5 (by decide) ?_
      refine lv_icmp_ge (tgt := 43) S.1 S.2.1 dX7_greatestWear_7 (by decide) (fun hc => ?_) (fun hc => ?_)
      · replace hF := z_ct hF hc
        exact hk _ _ _ _ _ hR hS _ (lv_sub hl [0, 1, 2, 3] rfl) hF
      · replace hF := z_cf hF hc
        refine lv_aload_n S.1 S.2.1 dX7_greatestWear_10 rfl (lv_at hl 0 rfl) ?_
        refine lv_iload_n S.1 S.2.1 dX7_greatestWear_11 rfl (lv_at hl 1 rfl) ?_
        refine lv_bipush (v := 12) S.1 S.2.1 dX7_greatestWear_12 (by decide) ?_
        refine lv_iload_n S.1 S.2.1 dX7_greatestWear_14 rfl (lv_at hl 3 rfl) ?_
        refine lv_iadd S.1 S.2.1 dX7_greatestWear_15 ?_
        refine z_goi hS hF (fun _ _ ho => va_runV (C := RX7) (n := 2) (As := [.int a1, .int (12 + a3)]) (rest := []) S (kX7_part l hg ho) (cwV 2 S.2.2.2.2 (zgV wm_X7_43 oX7_part) rfl rfl rfl hX7_part ⟨Nat.le_of_ble_eq_true rfl, Nat.le_of_ble_eq_true rfl⟩) ⟨zPc_blind, z_recv hK hR (by decide) rfl rfl, z_pre hK hR⟩ rfl rfl hl.1 rfl (lv_room (Nat.le_of_ble_eq_true rfl)) dX7_greatestWear_16 ⟨Nat.zero_le _, Nat.zero_le _⟩) (fun r22 M21 H locs hR hS hF => ?_)
        refine lv_iload_n S.1 S.2.1 dX7_greatestWear_19 rfl (lv_at hl 2 rfl) ?_
        refine lv_icmp_le (tgt := 35) S.1 S.2.1 dX7_greatestWear_20 (by decide) (fun hc => ?_) (fun hc => ?_)
        · replace hF := z_ct hF hc
          refine lv_iload_n S.1 S.2.1 dX7_greatestWear_35 rfl (lv_at hl 2 rfl) ?_
          refine lv_istore_n (lv' := [(2, .int a2), (0, .ref (g.1 26 0)), (1, .int a1), (3, .int a3)]) S.1 S.2.1 dX7_greatestWear_36 rfl hl (by decide) rfl (fun ls hl => ?_)
          obtain ⟨v23, ev23, hF⟩ := zL_out hF
          refine lv_iinc (v := v23) (lv' := [(3, .int v23), (2, .int a2), (0, .ref (g.1 26 0)), (1, .int a1)]) S.1 S.2.1 dX7_greatestWear_37 hl (k := 3) rfl (by rw [← ev23]; rfl) (by decide) rfl (fun ls hl => ?_)
          refine lv_goto (tgt := 4) S.1 S.2.1 dX7_greatestWear_40 (by decide) ?_
          exact ih _ _ _ _ _ hR hS _ (lv_sub hl [2, 3, 1, 0] rfl) hF
        · replace hF := z_cf hF hc
          refine lv_aload_n S.1 S.2.1 dX7_greatestWear_23 rfl (lv_at hl 0 rfl) ?_
          refine lv_iload_n S.1 S.2.1 dX7_greatestWear_24 rfl (lv_at hl 1 rfl) ?_
          refine lv_bipush (v := 12) S.1 S.2.1 dX7_greatestWear_25 (by decide) ?_
          refine lv_iload_n S.1 S.2.1 dX7_greatestWear_27 rfl (lv_at hl 3 rfl) ?_
          refine lv_iadd S.1 S.2.1 dX7_greatestWear_28 ?_
          refine z_goi hS hF (fun _ _ ho => va_runV (C := RX7) (n := 2) (As := [.int a1, .int (12 + a3)]) (rest := []) S (kX7_part l hg ho) (cwV 2 S.2.2.2.2 (zgV wm_X7_43 oX7_part) rfl rfl rfl hX7_part ⟨Nat.le_of_ble_eq_true rfl, Nat.le_of_ble_eq_true rfl⟩) ⟨zPc_blind, z_recv hK hR (by decide) rfl rfl, z_pre hK hR⟩ rfl rfl hl.1 rfl (lv_room (Nat.le_of_ble_eq_true rfl)) dX7_greatestWear_29 ⟨Nat.zero_le _, Nat.zero_le _⟩) (fun r25 M24 H locs hR hS hF => ?_)
          refine lv_goto (tgt := 36) S.1 S.2.1 dX7_greatestWear_32 (by decide) ?_
          refine lv_istore_n (lv' := [(2, .int r25), (0, .ref (g.1 26 0)), (1, .int a1), (3, .int a3)]) S.1 S.2.1 dX7_greatestWear_36 rfl hl (by decide) rfl (fun ls hl => ?_)
          obtain ⟨v26, ev26, hF⟩ := zL_out hF
          refine lv_iinc (v := v26) (lv' := [(3, .int v26), (2, .int r25), (0, .ref (g.1 26 0)), (1, .int a1)]) S.1 S.2.1 dX7_greatestWear_37 hl (k := 3) rfl (by rw [← ev26]; rfl) (by decide) rfl (fun ls hl => ?_)
          refine lv_goto (tgt := 4) S.1 S.2.1 dX7_greatestWear_40 (by decide) ?_
          exact ih _ _ _ _ _ hR hS _ (lv_sub hl [2, 3, 1, 0] rfl) hF
  unfold fX7_greatestWear at hF
  refine lv_iconst (v := 0) S.1 S.2.1 dX7_greatestWear_0 (by decide) ?_
  refine lv_istore_n (lv' := [(2, .int 0), (0, .ref (g.1 26 0)), (1, .int v1)]) S.1 S.2.1 dX7_greatestWear_1 rfl hl (by decide) rfl (fun ls hl => ?_)
  refine lv_iconst (v := 0) S.1 S.2.1 dX7_greatestWear_2 (by decide) ?_
  refine lv_istore_n (lv' := [(3, .int 0), (2, .int 0), (0, .ref (g.1 26 0)), (1, .int v1)]) S.1 S.2.1 dX7_greatestWear_3 rfl hl (by decide) rfl (fun ls hl => ?_)
  refine L4 _ _ (fun M27 v28 v29 H locs hR hS ls hl hF => ?_) _ _ _ _ _ _ hR hS _ (lv_sub hl [2, 3, 1, 0] rfl) hF
  refine lv_iload_n S.1 S.2.1 dX7_greatestWear_43 rfl (lv_at hl 2 rfl) ?_
  exact z_iret S hr hlk hR hS hF dX7_greatestWear_44
theorem hX7_placeOfGreatest : yX7_placeOfGreatest.cls = RX7 ∧ yX7_placeOfGreatest.cls ≠ "java/lang/invoke/MethodHandle" ∧ yX7_placeOfGreatest.cls ≠ "java/lang/invoke/VarHandle" ∧ (parseMethodDescriptor yX7_placeOfGreatest.desc).map (fun d => d.parameters.length) = some 1 := by decide +kernel
theorem oX7_placeOfGreatest : Cond.instanceMethod yX7_placeOfGreatest ∈ zT ∧ Cond.selects RX7 yX7_placeOfGreatest yX7_placeOfGreatest ∈ zT ∧ Cond.initialized RX7 ∈ zT ∧ Cond.code yX7_placeOfGreatest cX7_placeOfGreatest 5 (some .int) ∈ zT := ⟨wv_X7_placeOfGreatest, we_X7_placeOfGreatest, wi_X7, wk_X7_placeOfGreatest⟩
set_option maxRecDepth 100000 in
set_option maxHeartbeats 4000000 in
theorem kX7_placeOfGreatest (l : Launch) {g : zGeo} {z : Nat} (hg : zAd g z) {M M' : zM} {v1 : Int32} {r : Int32} (hF : fX7_placeOfGreatest M v1 = some (r, M')) : Met l yX7_placeOfGreatest [.code yX7_placeOfGreatest cX7_placeOfGreatest 5 (some .int)] { frames := 2, cells := 0, slots := 0, locals := 45 } (zPc g M [.ref (g.1 26 0), .int v1]) (zQi g z r M') 0 0 (zS z) := by
  refine z_enter (cc := cX7_placeOfGreatest) (maxL := 5) (ret := (some .int)) (by decide) rfl (Nat.le_of_ble_eq_true rfl) ?_
  intro p e s m below meth c S hr hlk hK hR hS ls hl
  have S : CallFix p m c cX7_placeOfGreatest 5 s _ zT RX7 := S
  have hl : lv_has ls 5 [(0, .ref (g.1 26 0)), (1, .int v1)] := hl
  have L12 : ∀ (k : zM → Int32 → Int32 → Option (Int32 × zM)) (a1 : Int32) (a2 : Int32), (∀ (M : zM) (a3 : Int32) (a4 : Int32) (H : Heap) (locs : List Loc), zR g M H → va_S (zS z) s.heap H locs → ∀ ls : Array Slot, lv_has ls 5 [(0, .ref (g.1 26 0)), (1, .int a1), (2, .int a2), (3, .int a3), (4, .int a4)] → k M a3 a4 = some (r, M') → W p l e { frames := 2, cells := 0, slots := 0, locals := 45 } s m ([.ref (g.1 26 0), .int v1] : List Value).toArray below meth c H locs 0 0 (MQ below (zQi g z r M') ([.ref (g.1 26 0), .int v1] : List Value).toArray s 0 0 (zS z)) (F0 m 44 ls [])) → ∀ (n : Nat) (M : zM) (a3 : Int32) (a4 : Int32) (H : Heap) (locs : List Loc), zR g M H → va_S (zS z) s.heap H locs → ∀ ls : Array Slot, lv_has ls 5 [(0, .ref (g.1 26 0)), (1, .int a1), (2, .int a2), (3, .int a3), (4, .int a4)] → fX7_placeOfGreatest_L12 k a1 a2 n M a3 a4 = some (r, M') → W p l e { frames := 2, cells := 0, slots := 0, locals := 45 } s m ([.ref (g.1 26 0), .int v1] : List Value).toArray below meth c H locs 0 0 (MQ below (zQi g z r M') ([.ref (g.1 26 0), .int v1] : List Value).toArray s 0 0 (zS z)) (F0 m 12 ls []) := by
    intro k a1 a2 hk n
    induction n with
    | zero =>
      intro M a3 a4 H locs hR hS ls hl hF
      cases hF
    | succ n ih =>
      intro M a3 a4 H locs hR hS ls hl hF
      unfold fX7_placeOfGreatest_L12 at hF
      refine lv_iload S.1 S.2.1 dX7_placeOfGreatest_12 (lv_at hl 4 rfl) ?_
      refine lv_if_lt (tgt := 44) S.1 S.2.1 dX7_placeOfGreatest_14 (by decide) (fun hc => ?_) (fun hc => ?_)
      · replace hF := z_ct hF hc
        exact hk _ _ _ _ _ hR hS _ (lv_sub hl [0, 1, 2, 3, 4] rfl) hF
      · replace hF := z_cf hF hc
        refine lv_aload_n S.1 S.2.1 dX7_placeOfGreatest_17 rfl (lv_at hl 0 rfl) ?_
        refine lv_iload_n S.1 S.2.1 dX7_placeOfGreatest_18 rfl (lv_at hl 1 rfl) ?_
        refine lv_bipush (v := 12) S.1 S.2.1 dX7_placeOfGreatest_19 (by decide) ?_
        refine lv_iload S.1 S.2.1 dX7_placeOfGreatest_21 (lv_at hl 4 rfl) ?_
        refine lv_iadd S.1 S.2.1 dX7_placeOfGreatest_23 ?_
        refine z_goi hS hF (fun _ _ ho => va_runV (C := RX7) (n := 2) (As := [.int a1, .int (12 + a4)]) (rest := []) S (kX7_part l hg ho) (cwV 2 S.2.2.2.2 (zgV wm_X7_43 oX7_part) rfl rfl rfl hX7_part ⟨Nat.le_of_ble_eq_true rfl, Nat.le_of_ble_eq_true rfl⟩) ⟨zPc_blind, z_recv hK hR (by decide) rfl rfl, z_pre hK hR⟩ rfl rfl hl.1 rfl (lv_room (Nat.le_of_ble_eq_true rfl)) dX7_placeOfGreatest_24 ⟨Nat.zero_le _, Nat.zero_le _⟩) (fun r24 M23 H locs hR hS hF => ?_)
        refine lv_iload_n S.1 S.2.1 dX7_placeOfGreatest_27 rfl (lv_at hl 2 rfl) ?_
        refine lv_icmp_ne (tgt := 36) S.1 S.2.1 dX7_placeOfGreatest_28 (by decide) (fun hc => ?_) (fun hc => ?_)
        · replace hF := z_cf hF hc
          refine lv_iload_n S.1 S.2.1 dX7_placeOfGreatest_36 rfl (lv_at hl 3 rfl) ?_
          refine lv_istore_n (lv' := [(3, .int a3), (0, .ref (g.1 26 0)), (1, .int a1), (2, .int a2), (4, .int a4)]) S.1 S.2.1 dX7_placeOfGreatest_37 rfl hl (by decide) rfl (fun ls hl => ?_)
          obtain ⟨v25, ev25, hF⟩ := zL_out hF
          refine lv_iinc (v := v25) (lv' := [(4, .int v25), (3, .int a3), (0, .ref (g.1 26 0)), (1, .int a1), (2, .int a2)]) S.1 S.2.1 dX7_placeOfGreatest_38 hl (k := 4) rfl (by rw [← ev25]; rfl) (by decide) rfl (fun ls hl => ?_)
          refine lv_goto (tgt := 12) S.1 S.2.1 dX7_placeOfGreatest_41 (by decide) ?_
          exact ih _ _ _ _ _ hR hS _ (lv_sub hl [2, 3, 4, 1, 0] rfl) hF
        · replace hF := z_ct hF hc
          refine lv_iload S.1 S.2.1 dX7_placeOfGreatest_31 (lv_at hl 4 rfl) ?_
          refine lv_goto (tgt := 37) S.1 S.2.1 dX7_placeOfGreatest_33 (by decide) ?_
          refine lv_istore_n (lv' := [(3, .int a4), (0, .ref (g.1 26 0)), (1, .int a1), (2, .int a2), (4, .int a4)]) S.1 S.2.1 dX7_placeOfGreatest_37 rfl hl (by decide) rfl (fun ls hl => ?_)
          obtain ⟨v26, ev26, hF⟩ := zL_out hF
          refine lv_iinc (v := v26) (lv' := [(4, .int v26), (3, .int a4), (0, .ref (g.1 26 0)), (1, .int a1), (2, .int a2)]) S.1 S.2.1 dX7_placeOfGreatest_38 hl (k := 4) rfl (by rw [← ev26]; rfl) (by decide) rfl (fun ls hl => ?_)
          refine lv_goto (tgt := 12) S.1 S.2.1 dX7_placeOfGreatest_41 (by decide) ?_
          exact ih _ _ _ _ _ hR hS _ (lv_sub hl [2, 3, 4, 1, 0] rfl) hF
  unfold fX7_placeOfGreatest at hF
  refine lv_aload_n S.1 S.2.1 dX7_placeOfGreatest_0 rfl (lv_at hl 0 rfl) ?_
  refine lv_iload_n S.1 S.2.1 dX7_placeOfGreatest_1 rfl (lv_at hl 1 rfl) ?_
  refine z_goi hS hF (fun _ _ ho => va_runV (C := RX7) (n := 1) (As := [.int v1]) (rest := []) S (kX7_greatestWear l hg ho) (cwV 1 S.2.2.2.2 (zgV wm_X7_47 oX7_greatestWear) rfl rfl rfl hX7_greatestWear ⟨Nat.le_of_ble_eq_true rfl, Nat.le_of_ble_eq_true rfl⟩) ⟨zPc_blind, z_recv hK hR (by decide) rfl rfl, z_pre hK hR⟩ rfl rfl hl.1 rfl (lv_room (Nat.le_of_ble_eq_true rfl)) dX7_placeOfGreatest_2 ⟨Nat.zero_le _, Nat.zero_le _⟩) (fun r22 M21 H locs hR hS hF => ?_)
  refine lv_istore_n (lv' := [(2, .int r22), (0, .ref (g.1 26 0)), (1, .int v1)]) S.1 S.2.1 dX7_placeOfGreatest_5 rfl hl (by decide) rfl (fun ls hl => ?_)
  refine lv_iconst (v := 0) S.1 S.2.1 dX7_placeOfGreatest_6 (by decide) ?_
  refine lv_istore_n (lv' := [(3, .int 0), (2, .int r22), (0, .ref (g.1 26 0)), (1, .int v1)]) S.1 S.2.1 dX7_placeOfGreatest_7 rfl hl (by decide) rfl (fun ls hl => ?_)
  refine lv_bipush (v := 31) S.1 S.2.1 dX7_placeOfGreatest_8 (by decide) ?_
  refine lv_istore (lv' := [(4, .int 31), (3, .int 0), (2, .int r22), (0, .ref (g.1 26 0)), (1, .int v1)]) S.1 S.2.1 dX7_placeOfGreatest_10 hl (by decide) rfl (fun ls hl => ?_)
  refine L12 _ _ _ (fun M27 v28 v29 H locs hR hS ls hl hF => ?_) _ _ _ _ _ _ hR hS _ (lv_sub hl [3, 4, 2, 1, 0] rfl) hF
  refine lv_iload_n S.1 S.2.1 dX7_placeOfGreatest_44 rfl (lv_at hl 3 rfl) ?_
  exact z_iret S hr hlk hR hS hF dX7_placeOfGreatest_45
theorem hX7_sideOf : yX7_sideOf.cls = RX7 ∧ yX7_sideOf.cls ≠ "java/lang/invoke/MethodHandle" ∧ yX7_sideOf.cls ≠ "java/lang/invoke/VarHandle" ∧ (parseMethodDescriptor yX7_sideOf.desc).map (fun d => d.parameters.length) = some 3 := by decide +kernel
theorem oX7_sideOf : Cond.instanceMethod yX7_sideOf ∈ zT ∧ Cond.selects RX7 yX7_sideOf yX7_sideOf ∈ zT ∧ Cond.initialized RX7 ∈ zT ∧ Cond.code yX7_sideOf cX7_sideOf 4 (some .int) ∈ zT := ⟨wv_X7_sideOf, we_X7_sideOf, wi_X7, wk_X7_sideOf⟩
set_option maxRecDepth 100000 in
set_option maxHeartbeats 4000000 in
theorem kX7_sideOf (l : Launch) {g : zGeo} {z : Nat} (hg : zAd g z) {M M' : zM} {v1 : Int32} {v2 : Int32} {v3 : Int32} {r : Int32} (hF : fX7_sideOf M v1 v2 v3 = some (r, M')) : Met l yX7_sideOf [.code yX7_sideOf cX7_sideOf 4 (some .int)] { frames := 1, cells := 0, slots := 0, locals := 22 } (zPc g M [.ref (g.1 26 0), .int v1, .int v2, .int v3]) (zQi g z r M') 0 0 (zS z) := by
  refine z_enter (cc := cX7_sideOf) (maxL := 4) (ret := (some .int)) (by decide) rfl (Nat.le_of_ble_eq_true rfl) ?_
  intro p e s m below meth c S hr hlk hK hR hS ls hl
  have S : CallFix p m c cX7_sideOf 4 s _ zT RX7 := S
  have hl : lv_has ls 4 [(0, .ref (g.1 26 0)), (1, .int v1), (2, .int v2), (3, .int v3)] := hl
  unfold fX7_sideOf at hF
  refine lv_aload_n S.1 S.2.1 dX7_sideOf_0 rfl (lv_at hl 0 rfl) ?_
  refine lv_iload_n S.1 S.2.1 dX7_sideOf_1 rfl (lv_at hl 1 rfl) ?_
  refine lv_iconst (v := 1) S.1 S.2.1 dX7_sideOf_2 (by decide) ?_
  refine z_goi hS hF (fun _ _ ho => va_runV (C := RX7) (n := 2) (As := [.int v1, .int 1]) (rest := []) S (kX7_part l hg ho) (cwV 2 S.2.2.2.2 (zgV wm_X7_43 oX7_part) rfl rfl rfl hX7_part ⟨Nat.le_of_ble_eq_true rfl, Nat.le_of_ble_eq_true rfl⟩) ⟨zPc_blind, z_recv hK hR (by decide) rfl rfl, z_pre hK hR⟩ rfl rfl hl.1 rfl (lv_room (Nat.le_of_ble_eq_true rfl)) dX7_sideOf_3 ⟨Nat.zero_le _, Nat.zero_le _⟩) (fun r22 M21 H locs hR hS hF => ?_)
  refine lv_aload_n S.1 S.2.1 dX7_sideOf_6 rfl (lv_at hl 0 rfl) ?_
  refine lv_iload_n S.1 S.2.1 dX7_sideOf_7 rfl (lv_at hl 1 rfl) ?_
  refine lv_iconst (v := 0) S.1 S.2.1 dX7_sideOf_8 (by decide) ?_
  refine z_goi hS hF (fun _ _ ho => va_runV (C := RX7) (n := 2) (As := [.int v1, .int 0]) (rest := [.int r22]) S (kX7_part l hg ho) (cwV 2 S.2.2.2.2 (zgV wm_X7_43 oX7_part) rfl rfl rfl hX7_part ⟨Nat.le_of_ble_eq_true rfl, Nat.le_of_ble_eq_true rfl⟩) ⟨zPc_blind, z_recv hK hR (by decide) rfl rfl, z_pre hK hR⟩ rfl rfl hl.1 rfl (lv_room (Nat.le_of_ble_eq_true rfl)) dX7_sideOf_9 ⟨Nat.zero_le _, Nat.zero_le _⟩) (fun r24 M23 H locs hR hS hF => ?_)
  refine lv_isub S.1 S.2.1 dX7_sideOf_12 ?_
  refine lv_iload_n S.1 S.2.1 dX7_sideOf_13 rfl (lv_at hl 3 rfl) ?_
  refine lv_imul S.1 S.2.1 dX7_sideOf_14 ?_
  refine lv_aload_n S.1 S.2.1 dX7_sideOf_15 rfl (lv_at hl 0 rfl) ?_
  refine lv_iload_n S.1 S.2.1 dX7_sideOf_16 rfl (lv_at hl 1 rfl) ?_
  refine lv_iconst (v := 2) S.1 S.2.1 dX7_sideOf_17 (by decide) ?_
  refine z_goi hS hF (fun _ _ ho => va_runV (C := RX7) (n := 2) (As := [.int v1, .int 2]) (rest := [.int ((r22 - r24) * v3)]) S (kX7_part l hg ho) (cwV 2 S.2.2.2.2 (zgV wm_X7_43 oX7_part) rfl rfl rfl hX7_part ⟨Nat.le_of_ble_eq_true rfl, Nat.le_of_ble_eq_true rfl⟩) ⟨zPc_blind, z_recv hK hR (by decide) rfl rfl, z_pre hK hR⟩ rfl rfl hl.1 rfl (lv_room (Nat.le_of_ble_eq_true rfl)) dX7_sideOf_18 ⟨Nat.zero_le _, Nat.zero_le _⟩) (fun r26 M25 H locs hR hS hF => ?_)
  refine lv_iload_n S.1 S.2.1 dX7_sideOf_21 rfl (lv_at hl 2 rfl) ?_
  refine lv_aload_n S.1 S.2.1 dX7_sideOf_22 rfl (lv_at hl 0 rfl) ?_
  refine lv_iload_n S.1 S.2.1 dX7_sideOf_23 rfl (lv_at hl 1 rfl) ?_
  refine lv_iconst (v := 0) S.1 S.2.1 dX7_sideOf_24 (by decide) ?_
  refine z_goi hS hF (fun _ _ ho => va_runV (C := RX7) (n := 2) (As := [.int v1, .int 0]) (rest := [.int v2, .int r26, .int ((r22 - r24) * v3)]) S (kX7_part l hg ho) (cwV 2 S.2.2.2.2 (zgV wm_X7_43 oX7_part) rfl rfl rfl hX7_part ⟨Nat.le_of_ble_eq_true rfl, Nat.le_of_ble_eq_true rfl⟩) ⟨zPc_blind, z_recv hK hR (by decide) rfl rfl, z_pre hK hR⟩ rfl rfl hl.1 rfl (lv_room (Nat.le_of_ble_eq_true rfl)) dX7_sideOf_25 ⟨Nat.zero_le _, Nat.zero_le _⟩) (fun r28 M27 H locs hR hS hF => ?_)
  refine lv_isub S.1 S.2.1 dX7_sideOf_28 ?_
  refine lv_imul S.1 S.2.1 dX7_sideOf_29 ?_
  refine lv_isub S.1 S.2.1 dX7_sideOf_30 ?_
  exact z_iret S hr hlk hR hS hF dX7_sideOf_31
theorem hX7_areApart : yX7_areApart.cls = RX7 ∧ yX7_areApart.cls ≠ "java/lang/invoke/MethodHandle" ∧ yX7_areApart.cls ≠ "java/lang/invoke/VarHandle" ∧ (parseMethodDescriptor yX7_areApart.desc).map (fun d => d.parameters.length) = some 2 := by decide +kernel
theorem oX7_areApart : Cond.static yX7_areApart ∈ zT ∧ Cond.initialized RX7 ∈ zT ∧ Cond.code yX7_areApart cX7_areApart 2 (some .boolean) ∈ zT := ⟨ws_X7_areApart, wi_X7, wk_X7_areApart⟩
set_option maxRecDepth 100000 in
set_option maxHeartbeats 4000000 in
theorem kX7_areApart (l : Launch) {g : zGeo} {z : Nat} (hg : zAd g z) {M M' : zM} {v0 : Int32} {v1 : Int32} {r : Int32} (hF : fX7_areApart M v0 v1 = some (r, M')) : Met l yX7_areApart [.code yX7_areApart cX7_areApart 2 (some .boolean)] { frames := 0, cells := 0, slots := 0, locals := 0 } (zPc g M [.int v0, .int v1]) (zQi g z r M') 0 0 (zS z) := by
  refine z_enter (cc := cX7_areApart) (maxL := 2) (ret := (some .boolean)) (by decide) rfl (Nat.le_of_ble_eq_true rfl) ?_
  intro p e s m below meth c S hr hlk hK hR hS ls hl
  have S : CallFix p m c cX7_areApart 2 s _ zT RX7 := S
  have hl : lv_has ls 2 [(0, .int v0), (1, .int v1)] := hl
  unfold fX7_areApart at hF
  refine lv_iload_n S.1 S.2.1 dX7_areApart_0 rfl (lv_at hl 0 rfl) ?_
  refine lv_if_ge (tgt := 8) S.1 S.2.1 dX7_areApart_1 (by decide) (fun hc => ?_) (fun hc => ?_)
  · replace hF := z_ct hF hc
    refine lv_iload_n S.1 S.2.1 dX7_areApart_8 rfl (lv_at hl 0 rfl) ?_
    refine lv_if_le (tgt := 20) S.1 S.2.1 dX7_areApart_9 (by decide) (fun hc => ?_) (fun hc => ?_)
    · replace hF := z_ct hF hc
      refine lv_iconst (v := 0) S.1 S.2.1 dX7_areApart_20 (by decide) ?_
      exact z_zretc S hr hlk hR hS (by decide) hF dX7_areApart_21
    · replace hF := z_cf hF hc
      refine lv_iload_n S.1 S.2.1 dX7_areApart_12 rfl (lv_at hl 1 rfl) ?_
      refine lv_if_ge (tgt := 20) S.1 S.2.1 dX7_areApart_13 (by decide) (fun hc => ?_) (fun hc => ?_)
      · replace hF := z_ct hF hc
        refine lv_iconst (v := 0) S.1 S.2.1 dX7_areApart_20 (by decide) ?_
        exact z_zretc S hr hlk hR hS (by decide) hF dX7_areApart_21
      · replace hF := z_cf hF hc
        refine lv_iconst (v := 1) S.1 S.2.1 dX7_areApart_16 (by decide) ?_
        refine lv_goto (tgt := 21) S.1 S.2.1 dX7_areApart_17 (by decide) ?_
        exact z_zretc S hr hlk hR hS (by decide) hF dX7_areApart_21
  · replace hF := z_cf hF hc
    refine lv_iload_n S.1 S.2.1 dX7_areApart_4 rfl (lv_at hl 1 rfl) ?_
    refine lv_if_gt (tgt := 16) S.1 S.2.1 dX7_areApart_5 (by decide) (fun hc => ?_) (fun hc => ?_)
    · replace hF := z_ct hF hc
      refine lv_iconst (v := 1) S.1 S.2.1 dX7_areApart_16 (by decide) ?_
      refine lv_goto (tgt := 21) S.1 S.2.1 dX7_areApart_17 (by decide) ?_
      exact z_zretc S hr hlk hR hS (by decide) hF dX7_areApart_21
    · replace hF := z_cf hF hc
      refine lv_iload_n S.1 S.2.1 dX7_areApart_8 rfl (lv_at hl 0 rfl) ?_
      refine lv_if_le (tgt := 20) S.1 S.2.1 dX7_areApart_9 (by decide) (fun hc => ?_) (fun hc => ?_)
      · replace hF := z_ct hF hc
        refine lv_iconst (v := 0) S.1 S.2.1 dX7_areApart_20 (by decide) ?_
        exact z_zretc S hr hlk hR hS (by decide) hF dX7_areApart_21
      · replace hF := z_cf hF hc
        refine lv_iload_n S.1 S.2.1 dX7_areApart_12 rfl (lv_at hl 1 rfl) ?_
        refine lv_if_ge (tgt := 20) S.1 S.2.1 dX7_areApart_13 (by decide) (fun hc => ?_) (fun hc => ?_)
        · replace hF := z_ct hF hc
          refine lv_iconst (v := 0) S.1 S.2.1 dX7_areApart_20 (by decide) ?_
          exact z_zretc S hr hlk hR hS (by decide) hF dX7_areApart_21
        · replace hF := z_cf hF hc
          refine lv_iconst (v := 1) S.1 S.2.1 dX7_areApart_16 (by decide) ?_
          refine lv_goto (tgt := 21) S.1 S.2.1 dX7_areApart_17 (by decide) ?_
          exact z_zretc S hr hlk hR hS (by decide) hF dX7_areApart_21
theorem hX7_cross : yX7_cross.cls = RX7 ∧ yX7_cross.cls ≠ "java/lang/invoke/MethodHandle" ∧ yX7_cross.cls ≠ "java/lang/invoke/VarHandle" ∧ (parseMethodDescriptor yX7_cross.desc).map (fun d => d.parameters.length) = some 2 := by decide +kernel
theorem oX7_cross : Cond.instanceMethod yX7_cross ∈ zT ∧ Cond.selects RX7 yX7_cross yX7_cross ∈ zT ∧ Cond.initialized RX7 ∈ zT ∧ Cond.code yX7_cross cX7_cross 12 (some .boolean) ∈ zT := ⟨wv_X7_cross, we_X7_cross, wi_X7, wk_X7_cross⟩
set_option maxRecDepth 100000 in
set_option maxHeartbeats 4000000 in
theorem kX7_cross (l : Launch) {g : zGeo} {z : Nat} (hg : zAd g z) {M M' : zM} {v1 : Int32} {v2 : Int32} {r : Int32} (hF : fX7_cross M v1 v2 = some (r, M')) : Met l yX7_cross [.code yX7_cross cX7_cross 12 (some .boolean)] { frames := 2, cells := 0, slots := 0, locals := 45 } (zPc g M [.ref (g.1 26 0), .int v1, .int v2]) (zQi g z r M') 0 0 (zS z) := by
  refine z_enter (cc := cX7_cross) (maxL := 12) (ret := (some .boolean)) (by decide) rfl (Nat.le_of_ble_eq_true rfl) ?_
  intro p e s m below meth c S hr hlk hK hR hS ls hl
  have S : CallFix p m c cX7_cross 12 s _ zT RX7 := S
  have hl : lv_has ls 12 [(0, .ref (g.1 26 0)), (1, .int v1), (2, .int v2)] := hl
  unfold fX7_cross at hF
  refine lv_aload_n S.1 S.2.1 dX7_cross_0 rfl (lv_at hl 0 rfl) ?_
  refine lv_iload_n S.1 S.2.1 dX7_cross_1 rfl (lv_at hl 1 rfl) ?_
  refine lv_aload_n S.1 S.2.1 dX7_cross_2 rfl (lv_at hl 0 rfl) ?_
  refine lv_iload_n S.1 S.2.1 dX7_cross_3 rfl (lv_at hl 2 rfl) ?_
  refine lv_iconst (v := 0) S.1 S.2.1 dX7_cross_4 (by decide) ?_
  refine z_goi hS hF (fun _ _ ho => va_runV (C := RX7) (n := 2) (As := [.int v2, .int 0]) (rest := [.int v1, .ref (g.1 26 0)]) S (kX7_part l hg ho) (cwV 2 S.2.2.2.2 (zgV wm_X7_43 oX7_part) rfl rfl rfl hX7_part ⟨Nat.le_of_ble_eq_true rfl, Nat.le_of_ble_eq_true rfl⟩) ⟨zPc_blind, z_recv hK hR (by decide) rfl rfl, z_pre hK hR⟩ rfl rfl hl.1 rfl (lv_room (Nat.le_of_ble_eq_true rfl)) dX7_cross_5 ⟨Nat.zero_le _, Nat.zero_le _⟩) (fun r22 M21 H locs hR hS hF => ?_)
  refine lv_iconst (v := 0) S.1 S.2.1 dX7_cross_8 (by decide) ?_
  refine z_goi hS hF (fun _ _ ho => va_runV (C := RX7) (n := 3) (As := [.int v1, .int r22, .int 0]) (rest := []) S (kX7_sideOf l hg ho) (cwV 3 S.2.2.2.2 (zgV wm_X7_51 oX7_sideOf) rfl rfl rfl hX7_sideOf ⟨Nat.le_of_ble_eq_true rfl, Nat.le_of_ble_eq_true rfl⟩) ⟨zPc_blind, z_recv hK hR (by decide) rfl rfl, z_pre hK hR⟩ rfl rfl hl.1 rfl (lv_room (Nat.le_of_ble_eq_true rfl)) dX7_cross_9 ⟨Nat.zero_le _, Nat.zero_le _⟩) (fun r24 M23 H locs hR hS hF => ?_)
  refine lv_istore_n (lv' := [(3, .int r24), (0, .ref (g.1 26 0)), (1, .int v1), (2, .int v2)]) S.1 S.2.1 dX7_cross_12 rfl hl (by decide) rfl (fun ls hl => ?_)
  refine lv_aload_n S.1 S.2.1 dX7_cross_13 rfl (lv_at hl 1 rfl) ?_
  refine lv_iload_n S.1 S.2.1 dX7_cross_14 rfl (lv_at hl 3 rfl) ?_
  refine lv_aload_n S.1 S.2.1 dX7_cross_15 rfl (lv_at hl 1 rfl) ?_
  refine lv_iload_n S.1 S.2.1 dX7_cross_16 rfl (lv_at hl 2 rfl) ?_
  refine lv_iconst (v := 0) S.1 S.2.1 dX7_cross_17 (by decide) ?_
  refine z_goi hS hF (fun _ _ ho => va_runV (C := RX7) (n := 2) (As := [.int v1, .int 0]) (rest := [.int v2, .ref (g.1 26 0)]) S (kX7_part l hg ho) (cwV 2 S.2.2.2.2 (zgV wm_X7_43 oX7_part) rfl rfl rfl hX7_part ⟨Nat.le_of_ble_eq_true rfl, Nat.le_of_ble_eq_true rfl⟩) ⟨zPc_blind, z_recv hK hR (by decide) rfl rfl, z_pre hK hR⟩ rfl rfl hl.1 rfl (lv_room (Nat.le_of_ble_eq_true rfl)) dX7_cross_18 ⟨Nat.zero_le _, Nat.zero_le _⟩) (fun r26 M25 H locs hR hS hF => ?_)
  refine lv_iconst (v := 0) S.1 S.2.1 dX7_cross_21 (by decide) ?_
  refine z_goi hS hF (fun _ _ ho => va_runV (C := RX7) (n := 3) (As := [.int v2, .int r26, .int 0]) (rest := []) S (kX7_sideOf l hg ho) (cwV 3 S.2.2.2.2 (zgV wm_X7_51 oX7_sideOf) rfl rfl rfl hX7_sideOf ⟨Nat.le_of_ble_eq_true rfl, Nat.le_of_ble_eq_true rfl⟩) ⟨zPc_blind, z_recv hK hR (by decide) rfl rfl, z_pre hK hR⟩ rfl rfl hl.1 rfl (lv_room (Nat.le_of_ble_eq_true rfl)) dX7_cross_22 ⟨Nat.zero_le _, Nat.zero_le _⟩) (fun r28 M27 H locs hR hS hF => ?_)
  refine lv_istore (lv' := [(4, .int r28), (3, .int r24), (0, .ref (g.1 26 0)), (1, .int v1), (2, .int v2)]) S.1 S.2.1 dX7_cross_25 hl (by decide) rfl (fun ls hl => ?_)
  refine lv_aload_n S.1 S.2.1 dX7_cross_27 rfl (lv_at hl 2 rfl) ?_
  refine lv_iload_n S.1 S.2.1 dX7_cross_28 rfl (lv_at hl 3 rfl) ?_
  refine lv_aload_n S.1 S.2.1 dX7_cross_29 rfl (lv_at hl 2 rfl) ?_
  refine lv_iload_n S.1 S.2.1 dX7_cross_30 rfl (lv_at hl 4 rfl) ?_
  refine lv_iconst (v := 1) S.1 S.2.1 dX7_cross_31 (by decide) ?_
  refine z_goi hS hF (fun _ _ ho => va_runV (C := RX7) (n := 2) (As := [.int v2, .int 1]) (rest := [.int v1, .ref (g.1 26 0)]) S (kX7_part l hg ho) (cwV 2 S.2.2.2.2 (zgV wm_X7_43 oX7_part) rfl rfl rfl hX7_part ⟨Nat.le_of_ble_eq_true rfl, Nat.le_of_ble_eq_true rfl⟩) ⟨zPc_blind, z_recv hK hR (by decide) rfl rfl, z_pre hK hR⟩ rfl rfl hl.1 rfl (lv_room (Nat.le_of_ble_eq_true rfl)) dX7_cross_32 ⟨Nat.zero_le _, Nat.zero_le _⟩) (fun r30 M29 H locs hR hS hF => ?_)
  refine lv_aload_n S.1 S.2.1 dX7_cross_35 rfl (lv_at hl 2 rfl) ?_
  refine lv_iload_n S.1 S.2.1 dX7_cross_36 rfl (lv_at hl 4 rfl) ?_
  refine lv_iconst (v := 2) S.1 S.2.1 dX7_cross_37 (by decide) ?_
  refine z_goi hS hF (fun _ _ ho => va_runV (C := RX7) (n := 2) (As := [.int v2, .int 2]) (rest := [.int r30, .int v1, .ref (g.1 26 0)]) S (kX7_part l hg ho) (cwV 2 S.2.2.2.2 (zgV wm_X7_43 oX7_part) rfl rfl rfl hX7_part ⟨Nat.le_of_ble_eq_true rfl, Nat.le_of_ble_eq_true rfl⟩) ⟨zPc_blind, z_recv hK hR (by decide) rfl rfl, z_pre hK hR⟩ rfl rfl hl.1 rfl (lv_room (Nat.le_of_ble_eq_true rfl)) dX7_cross_38 ⟨Nat.zero_le _, Nat.zero_le _⟩) (fun r32 M31 H locs hR hS hF => ?_)
  refine z_goi hS hF (fun _ _ ho => va_runV (C := RX7) (n := 3) (As := [.int v1, .int r30, .int r32]) (rest := []) S (kX7_sideOf l hg ho) (cwV 3 S.2.2.2.2 (zgV wm_X7_51 oX7_sideOf) rfl rfl rfl hX7_sideOf ⟨Nat.le_of_ble_eq_true rfl, Nat.le_of_ble_eq_true rfl⟩) ⟨zPc_blind, z_recv hK hR (by decide) rfl rfl, z_pre hK hR⟩ rfl rfl hl.1 rfl (lv_room (Nat.le_of_ble_eq_true rfl)) dX7_cross_41 ⟨Nat.zero_le _, Nat.zero_le _⟩) (fun r34 M33 H locs hR hS hF => ?_)
  refine lv_istore (lv' := [(5, .int r34), (4, .int r28), (3, .int r24), (0, .ref (g.1 26 0)), (1, .int v1), (2, .int v2)]) S.1 S.2.1 dX7_cross_44 hl (by decide) rfl (fun ls hl => ?_)
  refine lv_aload_n S.1 S.2.1 dX7_cross_46 rfl (lv_at hl 3 rfl) ?_
  refine lv_iload_n S.1 S.2.1 dX7_cross_47 rfl (lv_at hl 5 rfl) ?_
  refine lv_aload_n S.1 S.2.1 dX7_cross_48 rfl (lv_at hl 3 rfl) ?_
  refine lv_iload_n S.1 S.2.1 dX7_cross_49 rfl (lv_at hl 4 rfl) ?_
  refine lv_iconst (v := 1) S.1 S.2.1 dX7_cross_50 (by decide) ?_
  refine z_goi hS hF (fun _ _ ho => va_runV (C := RX7) (n := 2) (As := [.int v1, .int 1]) (rest := [.int v2, .ref (g.1 26 0)]) S (kX7_part l hg ho) (cwV 2 S.2.2.2.2 (zgV wm_X7_43 oX7_part) rfl rfl rfl hX7_part ⟨Nat.le_of_ble_eq_true rfl, Nat.le_of_ble_eq_true rfl⟩) ⟨zPc_blind, z_recv hK hR (by decide) rfl rfl, z_pre hK hR⟩ rfl rfl hl.1 rfl (lv_room (Nat.le_of_ble_eq_true rfl)) dX7_cross_51 ⟨Nat.zero_le _, Nat.zero_le _⟩) (fun r36 M35 H locs hR hS hF => ?_)
  refine lv_aload_n S.1 S.2.1 dX7_cross_54 rfl (lv_at hl 3 rfl) ?_
  refine lv_iload_n S.1 S.2.1 dX7_cross_55 rfl (lv_at hl 4 rfl) ?_
  refine lv_iconst (v := 2) S.1 S.2.1 dX7_cross_56 (by decide) ?_
  refine z_goi hS hF (fun _ _ ho => va_runV (C := RX7) (n := 2) (As := [.int v1, .int 2]) (rest := [.int r36, .int v2, .ref (g.1 26 0)]) S (kX7_part l hg ho) (cwV 2 S.2.2.2.2 (zgV wm_X7_43 oX7_part) rfl rfl rfl hX7_part ⟨Nat.le_of_ble_eq_true rfl, Nat.le_of_ble_eq_true rfl⟩) ⟨zPc_blind, z_recv hK hR (by decide) rfl rfl, z_pre hK hR⟩ rfl rfl hl.1 rfl (lv_room (Nat.le_of_ble_eq_true rfl)) dX7_cross_57 ⟨Nat.zero_le _, Nat.zero_le _⟩) (fun r38 M37 H locs hR hS hF => ?_)
  refine z_goi hS hF (fun _ _ ho => va_runV (C := RX7) (n := 3) (As := [.int v2, .int r36, .int r38]) (rest := []) S (kX7_sideOf l hg ho) (cwV 3 S.2.2.2.2 (zgV wm_X7_51 oX7_sideOf) rfl rfl rfl hX7_sideOf ⟨Nat.le_of_ble_eq_true rfl, Nat.le_of_ble_eq_true rfl⟩) ⟨zPc_blind, z_recv hK hR (by decide) rfl rfl, z_pre hK hR⟩ rfl rfl hl.1 rfl (lv_room (Nat.le_of_ble_eq_true rfl)) dX7_cross_60 ⟨Nat.zero_le _, Nat.zero_le _⟩) (fun r40 M39 H locs hR hS hF => ?_)
  refine lv_istore (lv' := [(6, .int r40), (5, .int r34), (4, .int r28), (3, .int r24), (0, .ref (g.1 26 0)), (1, .int v1), (2, .int v2)]) S.1 S.2.1 dX7_cross_63 hl (by decide) rfl (fun ls hl => ?_)
  refine lv_aload_n S.1 S.2.1 dX7_cross_65 rfl (lv_at hl 4 rfl) ?_
  refine lv_iload_n S.1 S.2.1 dX7_cross_66 rfl (lv_at hl 5 rfl) ?_
  refine z_goi hS hF (fun _ _ ho => va_runV (C := RX7) (n := 1) (As := [.int v1]) (rest := []) S (kX7_flies l hg ho) (cwV 1 S.2.2.2.2 (zgV wm_X7_55 oX7_flies) rfl rfl rfl hX7_flies ⟨Nat.le_of_ble_eq_true rfl, Nat.le_of_ble_eq_true rfl⟩) ⟨zPc_blind, z_recv hK hR (by decide) rfl rfl, z_pre hK hR⟩ rfl rfl hl.1 rfl (lv_room (Nat.le_of_ble_eq_true rfl)) dX7_cross_67 ⟨Nat.zero_le _, Nat.zero_le _⟩) (fun r42 M41 H locs hR hS hF => ?_)
  refine lv_if_eq (tgt := 104) S.1 S.2.1 dX7_cross_70 (by decide) (fun hc => ?_) (fun hc => ?_)
  · replace hF := z_ct hF hc
    refine lv_iconst (v := 0) S.1 S.2.1 dX7_cross_104 (by decide) ?_
    refine lv_istore (lv' := [(7, .int 0), (6, .int r40), (5, .int r34), (4, .int r28), (3, .int r24), (0, .ref (g.1 26 0)), (1, .int v1), (2, .int v2)]) S.1 S.2.1 dX7_cross_105 hl (by decide) rfl (fun ls hl => ?_)
    refine lv_iload S.1 S.2.1 dX7_cross_107 (lv_at hl 0 rfl) ?_
    refine lv_if_eq (tgt := 244) S.1 S.2.1 dX7_cross_109 (by decide) (fun _ => ?_) (fun hc => absurd hc (by decide))
    refine lv_iload S.1 S.2.1 dX7_cross_244 (lv_at hl 0 rfl) ?_
    exact z_zretc S hr hlk hR hS (by decide) hF dX7_cross_246
  · replace hF := z_cf hF hc
    refine lv_aload_n S.1 S.2.1 dX7_cross_73 rfl (lv_at hl 4 rfl) ?_
    refine lv_iload_n S.1 S.2.1 dX7_cross_74 rfl (lv_at hl 6 rfl) ?_
    refine z_goi hS hF (fun _ _ ho => va_runV (C := RX7) (n := 1) (As := [.int v2]) (rest := []) S (kX7_flies l hg ho) (cwV 1 S.2.2.2.2 (zgV wm_X7_55 oX7_flies) rfl rfl rfl hX7_flies ⟨Nat.le_of_ble_eq_true rfl, Nat.le_of_ble_eq_true rfl⟩) ⟨zPc_blind, z_recv hK hR (by decide) rfl rfl, z_pre hK hR⟩ rfl rfl hl.1 rfl (lv_room (Nat.le_of_ble_eq_true rfl)) dX7_cross_75 ⟨Nat.zero_le _, Nat.zero_le _⟩) (fun r44 M43 H locs hR hS hF => ?_)
    refine lv_if_eq (tgt := 104) S.1 S.2.1 dX7_cross_78 (by decide) (fun hc => ?_) (fun hc => ?_)
    · replace hF := z_ct hF hc
      refine lv_iconst (v := 0) S.1 S.2.1 dX7_cross_104 (by decide) ?_
      refine lv_istore (lv' := [(7, .int 0), (6, .int r40), (5, .int r34), (4, .int r28), (3, .int r24), (0, .ref (g.1 26 0)), (1, .int v1), (2, .int v2)]) S.1 S.2.1 dX7_cross_105 hl (by decide) rfl (fun ls hl => ?_)
      refine lv_iload S.1 S.2.1 dX7_cross_107 (lv_at hl 0 rfl) ?_
      refine lv_if_eq (tgt := 244) S.1 S.2.1 dX7_cross_109 (by decide) (fun _ => ?_) (fun hc => absurd hc (by decide))
      refine lv_iload S.1 S.2.1 dX7_cross_244 (lv_at hl 0 rfl) ?_
      exact z_zretc S hr hlk hR hS (by decide) hF dX7_cross_246
    · replace hF := z_cf hF hc
      refine lv_iload_n S.1 S.2.1 dX7_cross_81 rfl (lv_at hl 3 rfl) ?_
      refine lv_iload S.1 S.2.1 dX7_cross_82 (lv_at hl 1 rfl) ?_
      refine z_goi hS hF (fun _ _ ho => va_runS (n := 2) (As := [.int r24, .int r34]) (rest := []) S (kX7_areApart l hg ho) (va_cwS 2 S.2.2.2.2 (zgS wm_X7_59 oX7_areApart) rfl rfl rfl hX7_areApart.2 ⟨Nat.le_of_ble_eq_true rfl, Nat.le_of_ble_eq_true rfl⟩) ⟨zPc_blind, z_pre hK hR⟩ rfl rfl hl.1 rfl (lv_room (Nat.le_of_ble_eq_true rfl)) dX7_cross_84 ⟨Nat.zero_le _, Nat.zero_le _⟩) (fun r46 M45 H locs hR hS hF => ?_)
      refine lv_if_eq (tgt := 104) S.1 S.2.1 dX7_cross_87 (by decide) (fun hc => ?_) (fun hc => ?_)
      · replace hF := z_ct hF hc
        refine lv_iconst (v := 0) S.1 S.2.1 dX7_cross_104 (by decide) ?_
        refine lv_istore (lv' := [(7, .int 0), (6, .int r40), (5, .int r34), (4, .int r28), (3, .int r24), (0, .ref (g.1 26 0)), (1, .int v1), (2, .int v2)]) S.1 S.2.1 dX7_cross_105 hl (by decide) rfl (fun ls hl => ?_)
        refine lv_iload S.1 S.2.1 dX7_cross_107 (lv_at hl 0 rfl) ?_
        refine lv_if_eq (tgt := 244) S.1 S.2.1 dX7_cross_109 (by decide) (fun _ => ?_) (fun hc => absurd hc (by decide))
        refine lv_iload S.1 S.2.1 dX7_cross_244 (lv_at hl 0 rfl) ?_
        exact z_zretc S hr hlk hR hS (by decide) hF dX7_cross_246
      · replace hF := z_cf hF hc
        refine lv_iload S.1 S.2.1 dX7_cross_90 (lv_at hl 2 rfl) ?_
        refine lv_iload S.1 S.2.1 dX7_cross_92 (lv_at hl 0 rfl) ?_
        refine z_goi hS hF (fun _ _ ho => va_runS (n := 2) (As := [.int r28, .int r40]) (rest := []) S (kX7_areApart l hg ho) (va_cwS 2 S.2.2.2.2 (zgS wm_X7_59 oX7_areApart) rfl rfl rfl hX7_areApart.2 ⟨Nat.le_of_ble_eq_true rfl, Nat.le_of_ble_eq_true rfl⟩) ⟨zPc_blind, z_pre hK hR⟩ rfl rfl hl.1 rfl (lv_room (Nat.le_of_ble_eq_true rfl)) dX7_cross_94 ⟨Nat.zero_le _, Nat.zero_le _⟩) (fun r48 M47 H locs hR hS hF => ?_)
        refine lv_if_eq (tgt := 104) S.1 S.2.1 dX7_cross_97 (by decide) (fun hc => ?_) (fun hc => ?_)
        · replace hF := z_ct hF hc
          refine lv_iconst (v := 0) S.1 S.2.1 dX7_cross_104 (by decide) ?_
          refine lv_istore (lv' := [(7, .int 0), (6, .int r40), (5, .int r34), (4, .int r28), (3, .int r24), (0, .ref (g.1 26 0)), (1, .int v1), (2, .int v2)]) S.1 S.2.1 dX7_cross_105 hl (by decide) rfl (fun ls hl => ?_)
          refine lv_iload S.1 S.2.1 dX7_cross_107 (lv_at hl 0 rfl) ?_
          refine lv_if_eq (tgt := 244) S.1 S.2.1 dX7_cross_109 (by decide) (fun _ => ?_) (fun hc => absurd hc (by decide))
          refine lv_iload S.1 S.2.1 dX7_cross_244 (lv_at hl 0 rfl) ?_
          exact z_zretc S hr hlk hR hS (by decide) hF dX7_cross_246
        · replace hF := z_cf hF hc
          refine lv_iconst (v := 1) S.1 S.2.1 dX7_cross_100 (by decide) ?_
          refine lv_goto (tgt := 105) S.1 S.2.1 dX7_cross_101 (by decide) ?_
          refine lv_istore (lv' := [(7, .int 1), (6, .int r40), (5, .int r34), (4, .int r28), (3, .int r24), (0, .ref (g.1 26 0)), (1, .int v1), (2, .int v2)]) S.1 S.2.1 dX7_cross_105 hl (by decide) rfl (fun ls hl => ?_)
          refine lv_iload S.1 S.2.1 dX7_cross_107 (lv_at hl 0 rfl) ?_
          refine lv_if_eq (tgt := 244) S.1 S.2.1 dX7_cross_109 (by decide) (fun hc => absurd hc (by decide)) (fun _ => ?_)
          refine lv_aload_n S.1 S.2.1 dX7_cross_112 rfl (lv_at hl 5 rfl) ?_
          refine lv_iload_n S.1 S.2.1 dX7_cross_113 rfl (lv_at hl 6 rfl) ?_
          refine lv_iconst (v := 1) S.1 S.2.1 dX7_cross_114 (by decide) ?_
          refine z_goi hS hF (fun _ _ ho => va_runV (C := RX7) (n := 2) (As := [.int v1, .int 1]) (rest := []) S (kX7_part l hg ho) (cwV 2 S.2.2.2.2 (zgV wm_X7_43 oX7_part) rfl rfl rfl hX7_part ⟨Nat.le_of_ble_eq_true rfl, Nat.le_of_ble_eq_true rfl⟩) ⟨zPc_blind, z_recv hK hR (by decide) rfl rfl, z_pre hK hR⟩ rfl rfl hl.1 rfl (lv_room (Nat.le_of_ble_eq_true rfl)) dX7_cross_115 ⟨Nat.zero_le _, Nat.zero_le _⟩) (fun r50 M49 H locs hR hS hF => ?_)
          refine lv_aload_n S.1 S.2.1 dX7_cross_118 rfl (lv_at hl 5 rfl) ?_
          refine lv_iload_n S.1 S.2.1 dX7_cross_119 rfl (lv_at hl 6 rfl) ?_
          refine lv_iconst (v := 0) S.1 S.2.1 dX7_cross_120 (by decide) ?_
          refine z_goi hS hF (fun _ _ ho => va_runV (C := RX7) (n := 2) (As := [.int v1, .int 0]) (rest := [.int r50]) S (kX7_part l hg ho) (cwV 2 S.2.2.2.2 (zgV wm_X7_43 oX7_part) rfl rfl rfl hX7_part ⟨Nat.le_of_ble_eq_true rfl, Nat.le_of_ble_eq_true rfl⟩) ⟨zPc_blind, z_recv hK hR (by decide) rfl rfl, z_pre hK hR⟩ rfl rfl hl.1 rfl (lv_room (Nat.le_of_ble_eq_true rfl)) dX7_cross_121 ⟨Nat.zero_le _, Nat.zero_le _⟩) (fun r52 M51 H locs hR hS hF => ?_)
          refine lv_isub S.1 S.2.1 dX7_cross_124 ?_
          refine z_nm hF (fun v53 hF => ?_)
          refine lv_istore (lv' := [(8, .int v53), (7, .int 1), (6, .int r40), (5, .int r34), (4, .int r28), (3, .int r24), (0, .ref (g.1 26 0)), (1, .int v1), (2, .int v2)]) S.1 S.2.1 dX7_cross_125 hl (by decide) rfl (fun ls hl => ?_)
          refine lv_aload_n S.1 S.2.1 dX7_cross_127 rfl (lv_at hl 6 rfl) ?_
          refine lv_iload_n S.1 S.2.1 dX7_cross_128 rfl (lv_at hl 8 rfl) ?_
          refine lv_iconst (v := 1) S.1 S.2.1 dX7_cross_129 (by decide) ?_
          refine z_goi hS hF (fun _ _ ho => va_runV (C := RX7) (n := 2) (As := [.int v2, .int 1]) (rest := []) S (kX7_part l hg ho) (cwV 2 S.2.2.2.2 (zgV wm_X7_43 oX7_part) rfl rfl rfl hX7_part ⟨Nat.le_of_ble_eq_true rfl, Nat.le_of_ble_eq_true rfl⟩) ⟨zPc_blind, z_recv hK hR (by decide) rfl rfl, z_pre hK hR⟩ rfl rfl hl.1 rfl (lv_room (Nat.le_of_ble_eq_true rfl)) dX7_cross_130 ⟨Nat.zero_le _, Nat.zero_le _⟩) (fun r55 M54 H locs hR hS hF => ?_)
          refine lv_aload_n S.1 S.2.1 dX7_cross_133 rfl (lv_at hl 6 rfl) ?_
          refine lv_iload_n S.1 S.2.1 dX7_cross_134 rfl (lv_at hl 8 rfl) ?_
          refine lv_iconst (v := 0) S.1 S.2.1 dX7_cross_135 (by decide) ?_
          refine z_goi hS hF (fun _ _ ho => va_runV (C := RX7) (n := 2) (As := [.int v2, .int 0]) (rest := [.int r55]) S (kX7_part l hg ho) (cwV 2 S.2.2.2.2 (zgV wm_X7_43 oX7_part) rfl rfl rfl hX7_part ⟨Nat.le_of_ble_eq_true rfl, Nat.le_of_ble_eq_true rfl⟩) ⟨zPc_blind, z_recv hK hR (by decide) rfl rfl, z_pre hK hR⟩ rfl rfl hl.1 rfl (lv_room (Nat.le_of_ble_eq_true rfl)) dX7_cross_136 ⟨Nat.zero_le _, Nat.zero_le _⟩) (fun r57 M56 H locs hR hS hF => ?_)
          refine lv_isub S.1 S.2.1 dX7_cross_139 ?_
          refine z_nm hF (fun v58 hF => ?_)
          refine lv_istore (lv' := [(9, .int v58), (8, .int v53), (7, .int 1), (6, .int r40), (5, .int r34), (4, .int r28), (3, .int r24), (0, .ref (g.1 26 0)), (1, .int v1), (2, .int v2)]) S.1 S.2.1 dX7_cross_140 hl (by decide) rfl (fun ls hl => ?_)
          refine lv_aload_n S.1 S.2.1 dX7_cross_142 rfl (lv_at hl 7 rfl) ?_
          refine lv_iload_n S.1 S.2.1 dX7_cross_143 rfl (lv_at hl 8 rfl) ?_
          refine lv_iconst (v := 2) S.1 S.2.1 dX7_cross_144 (by decide) ?_
          refine z_goi hS hF (fun _ _ ho => va_runV (C := RX7) (n := 2) (As := [.int v1, .int 2]) (rest := []) S (kX7_part l hg ho) (cwV 2 S.2.2.2.2 (zgV wm_X7_43 oX7_part) rfl rfl rfl hX7_part ⟨Nat.le_of_ble_eq_true rfl, Nat.le_of_ble_eq_true rfl⟩) ⟨zPc_blind, z_recv hK hR (by decide) rfl rfl, z_pre hK hR⟩ rfl rfl hl.1 rfl (lv_room (Nat.le_of_ble_eq_true rfl)) dX7_cross_145 ⟨Nat.zero_le _, Nat.zero_le _⟩) (fun r60 M59 H locs hR hS hF => ?_)
          refine lv_istore (lv' := [(10, .int r60), (9, .int v58), (8, .int v53), (7, .int 1), (6, .int r40), (5, .int r34), (4, .int r28), (3, .int r24), (0, .ref (g.1 26 0)), (1, .int v1), (2, .int v2)]) S.1 S.2.1 dX7_cross_148 hl (by decide) rfl (fun ls hl => ?_)
          refine lv_aload_n S.1 S.2.1 dX7_cross_150 rfl (lv_at hl 8 rfl) ?_
          refine lv_iload_n S.1 S.2.1 dX7_cross_151 rfl (lv_at hl 10 rfl) ?_
          refine lv_iconst (v := 2) S.1 S.2.1 dX7_cross_152 (by decide) ?_
          refine z_goi hS hF (fun _ _ ho => va_runV (C := RX7) (n := 2) (As := [.int v2, .int 2]) (rest := []) S (kX7_part l hg ho) (cwV 2 S.2.2.2.2 (zgV wm_X7_43 oX7_part) rfl rfl rfl hX7_part ⟨Nat.le_of_ble_eq_true rfl, Nat.le_of_ble_eq_true rfl⟩) ⟨zPc_blind, z_recv hK hR (by decide) rfl rfl, z_pre hK hR⟩ rfl rfl hl.1 rfl (lv_room (Nat.le_of_ble_eq_true rfl)) dX7_cross_153 ⟨Nat.zero_le _, Nat.zero_le _⟩) (fun r62 M61 H locs hR hS hF => ?_)
          refine lv_istore (lv' := [(11, .int r62), (10, .int r60), (9, .int v58), (8, .int v53), (7, .int 1), (6, .int r40), (5, .int r34), (4, .int r28), (3, .int r24), (0, .ref (g.1 26 0)), (1, .int v1), (2, .int v2)]) S.1 S.2.1 dX7_cross_156 hl (by decide) rfl (fun ls hl => ?_)
          refine lv_aload_n S.1 S.2.1 dX7_cross_158 rfl (lv_at hl 9 rfl) ?_
          refine lv_bipush (v := 32) S.1 S.2.1 dX7_cross_159 (by decide) ?_
          refine lv_iload S.1 S.2.1 dX7_cross_161 (lv_at hl 7 rfl) ?_
          refine z_goi hS hF (fun _ _ ho => va_runS (n := 1) (As := [.int r28]) (rest := [.int 32, .ref (g.1 26 0)]) S (kX7_size l hg ho) (va_cwS 1 S.2.2.2.2 (zgS wm_X7_63 oX7_size) rfl rfl rfl hX7_size.2 ⟨Nat.le_of_ble_eq_true rfl, Nat.le_of_ble_eq_true rfl⟩) ⟨zPc_blind, z_pre hK hR⟩ rfl rfl hl.1 rfl (lv_room (Nat.le_of_ble_eq_true rfl)) dX7_cross_163 ⟨Nat.zero_le _, Nat.zero_le _⟩) (fun r64 M63 H locs hR hS hF => ?_)
          refine lv_imul S.1 S.2.1 dX7_cross_166 ?_
          refine lv_iload S.1 S.2.1 dX7_cross_167 (lv_at hl 7 rfl) ?_
          refine z_goi hS hF (fun _ _ ho => va_runS (n := 1) (As := [.int r28]) (rest := [.int (32 * r64), .ref (g.1 26 0)]) S (kX7_size l hg ho) (va_cwS 1 S.2.2.2.2 (zgS wm_X7_63 oX7_size) rfl rfl rfl hX7_size.2 ⟨Nat.le_of_ble_eq_true rfl, Nat.le_of_ble_eq_true rfl⟩) ⟨zPc_blind, z_pre hK hR⟩ rfl rfl hl.1 rfl (lv_room (Nat.le_of_ble_eq_true rfl)) dX7_cross_169 ⟨Nat.zero_le _, Nat.zero_le _⟩) (fun r66 M65 H locs hR hS hF => ?_)
          refine lv_iload S.1 S.2.1 dX7_cross_172 (lv_at hl 5 rfl) ?_
          refine z_goi hS hF (fun _ _ ho => va_runS (n := 1) (As := [.int r40]) (rest := [.int r66, .int (32 * r64), .ref (g.1 26 0)]) S (kX7_size l hg ho) (va_cwS 1 S.2.2.2.2 (zgS wm_X7_63 oX7_size) rfl rfl rfl hX7_size.2 ⟨Nat.le_of_ble_eq_true rfl, Nat.le_of_ble_eq_true rfl⟩) ⟨zPc_blind, z_pre hK hR⟩ rfl rfl hl.1 rfl (lv_room (Nat.le_of_ble_eq_true rfl)) dX7_cross_174 ⟨Nat.zero_le _, Nat.zero_le _⟩) (fun r68 M67 H locs hR hS hF => ?_)
          refine lv_iadd S.1 S.2.1 dX7_cross_177 ?_
          obtain ⟨hne, hF⟩ := zV_out hF
          refine lv_idiv S.1 S.2.1 dX7_cross_178 hne ?_
          refine z_put (k := 26) (i := 0) (f := 9) (ty := .int) S hg hK hR hS hF (by decide) rfl rfl rfl (by decide) wf_X7_66 rfl (by decide +kernel) rfl rfl (Nat.le_of_ble_eq_true rfl) dX7_cross_179 (fun H locs M69 hR hS hF => ?_)
          refine lv_aload_n S.1 S.2.1 dX7_cross_182 rfl (lv_at hl 9 rfl) ?_
          refine lv_bipush (v := 32) S.1 S.2.1 dX7_cross_183 (by decide) ?_
          refine lv_iload_n S.1 S.2.1 dX7_cross_185 rfl (lv_at hl 8 rfl) ?_
          refine z_goi hS hF (fun _ _ ho => va_runS (n := 1) (As := [.int r24]) (rest := [.int 32, .ref (g.1 26 0)]) S (kX7_size l hg ho) (va_cwS 1 S.2.2.2.2 (zgS wm_X7_63 oX7_size) rfl rfl rfl hX7_size.2 ⟨Nat.le_of_ble_eq_true rfl, Nat.le_of_ble_eq_true rfl⟩) ⟨zPc_blind, z_pre hK hR⟩ rfl rfl hl.1 rfl (lv_room (Nat.le_of_ble_eq_true rfl)) dX7_cross_186 ⟨Nat.zero_le _, Nat.zero_le _⟩) (fun r71 M70 H locs hR hS hF => ?_)
          refine lv_imul S.1 S.2.1 dX7_cross_189 ?_
          refine lv_iload_n S.1 S.2.1 dX7_cross_190 rfl (lv_at hl 8 rfl) ?_
          refine z_goi hS hF (fun _ _ ho => va_runS (n := 1) (As := [.int r24]) (rest := [.int (32 * r71), .ref (g.1 26 0)]) S (kX7_size l hg ho) (va_cwS 1 S.2.2.2.2 (zgS wm_X7_63 oX7_size) rfl rfl rfl hX7_size.2 ⟨Nat.le_of_ble_eq_true rfl, Nat.le_of_ble_eq_true rfl⟩) ⟨zPc_blind, z_pre hK hR⟩ rfl rfl hl.1 rfl (lv_room (Nat.le_of_ble_eq_true rfl)) dX7_cross_191 ⟨Nat.zero_le _, Nat.zero_le _⟩) (fun r73 M72 H locs hR hS hF => ?_)
          refine lv_iload S.1 S.2.1 dX7_cross_194 (lv_at hl 6 rfl) ?_
          refine z_goi hS hF (fun _ _ ho => va_runS (n := 1) (As := [.int r34]) (rest := [.int r73, .int (32 * r71), .ref (g.1 26 0)]) S (kX7_size l hg ho) (va_cwS 1 S.2.2.2.2 (zgS wm_X7_63 oX7_size) rfl rfl rfl hX7_size.2 ⟨Nat.le_of_ble_eq_true rfl, Nat.le_of_ble_eq_true rfl⟩) ⟨zPc_blind, z_pre hK hR⟩ rfl rfl hl.1 rfl (lv_room (Nat.le_of_ble_eq_true rfl)) dX7_cross_196 ⟨Nat.zero_le _, Nat.zero_le _⟩) (fun r75 M74 H locs hR hS hF => ?_)
          refine lv_iadd S.1 S.2.1 dX7_cross_199 ?_
          obtain ⟨hne, hF⟩ := zV_out hF
          refine lv_idiv S.1 S.2.1 dX7_cross_200 hne ?_
          refine z_put (k := 26) (i := 0) (f := 10) (ty := .int) S hg hK hR hS hF (by decide) rfl rfl rfl (by decide) wf_X7_69 rfl (by decide +kernel) rfl rfl (Nat.le_of_ble_eq_true rfl) dX7_cross_201 (fun H locs M76 hR hS hF => ?_)
          refine lv_aload_n S.1 S.2.1 dX7_cross_204 rfl (lv_at hl 9 rfl) ?_
          refine lv_iload S.1 S.2.1 dX7_cross_205 (lv_at hl 3 rfl) ?_
          refine lv_iload S.1 S.2.1 dX7_cross_207 (lv_at hl 0 rfl) ?_
          refine lv_imul S.1 S.2.1 dX7_cross_209 ?_
          refine lv_iload S.1 S.2.1 dX7_cross_210 (lv_at hl 1 rfl) ?_
          refine lv_iload S.1 S.2.1 dX7_cross_212 (lv_at hl 2 rfl) ?_
          refine lv_imul S.1 S.2.1 dX7_cross_214 ?_
          refine lv_isub S.1 S.2.1 dX7_cross_215 ?_
          refine z_goi hS hF (fun _ _ ho => va_runS (n := 1) (As := [.int ((v53 * r62) - (r60 * v58))]) (rest := [.ref (g.1 26 0)]) S (kX7_size l hg ho) (va_cwS 1 S.2.2.2.2 (zgS wm_X7_63 oX7_size) rfl rfl rfl hX7_size.2 ⟨Nat.le_of_ble_eq_true rfl, Nat.le_of_ble_eq_true rfl⟩) ⟨zPc_blind, z_pre hK hR⟩ rfl rfl hl.1 rfl (lv_room (Nat.le_of_ble_eq_true rfl)) dX7_cross_216 ⟨Nat.zero_le _, Nat.zero_le _⟩) (fun r78 M77 H locs hR hS hF => ?_)
          refine lv_iload S.1 S.2.1 dX7_cross_219 (lv_at hl 3 rfl) ?_
          refine lv_iload S.1 S.2.1 dX7_cross_221 (lv_at hl 2 rfl) ?_
          refine lv_imul S.1 S.2.1 dX7_cross_223 ?_
          refine lv_iload S.1 S.2.1 dX7_cross_224 (lv_at hl 1 rfl) ?_
          refine lv_iload S.1 S.2.1 dX7_cross_226 (lv_at hl 0 rfl) ?_
          refine lv_imul S.1 S.2.1 dX7_cross_228 ?_
          refine lv_iadd S.1 S.2.1 dX7_cross_229 ?_
          refine z_goi hS hF (fun _ _ ho => va_runS (n := 1) (As := [.int ((v53 * v58) + (r60 * r62))]) (rest := [.int r78, .ref (g.1 26 0)]) S (kX7_size l hg ho) (va_cwS 1 S.2.2.2.2 (zgS wm_X7_63 oX7_size) rfl rfl rfl hX7_size.2 ⟨Nat.le_of_ble_eq_true rfl, Nat.le_of_ble_eq_true rfl⟩) ⟨zPc_blind, z_pre hK hR⟩ rfl rfl hl.1 rfl (lv_room (Nat.le_of_ble_eq_true rfl)) dX7_cross_230 ⟨Nat.zero_le _, Nat.zero_le _⟩) (fun r80 M79 H locs hR hS hF => ?_)
          refine lv_icmp_lt (tgt := 240) S.1 S.2.1 dX7_cross_233 (by decide) (fun hc => ?_) (fun hc => ?_)
          · replace hF := z_ct hF hc
            refine lv_iconst (v := 0) S.1 S.2.1 dX7_cross_240 (by decide) ?_
            refine z_put (k := 26) (i := 0) (f := 11) (ty := .boolean) S hg hK hR hS hF (by decide) rfl rfl rfl (by decide) wf_X7_72 rfl (by decide +kernel) rfl rfl (Nat.le_of_ble_eq_true rfl) dX7_cross_241 (fun H locs M81 hR hS hF => ?_)
            refine lv_iload S.1 S.2.1 dX7_cross_244 (lv_at hl 4 rfl) ?_
            exact z_zretc S hr hlk hR hS (by decide) hF dX7_cross_246
          · replace hF := z_cf hF hc
            refine lv_iconst (v := 1) S.1 S.2.1 dX7_cross_236 (by decide) ?_
            refine lv_goto (tgt := 241) S.1 S.2.1 dX7_cross_237 (by decide) ?_
            refine z_put (k := 26) (i := 0) (f := 11) (ty := .boolean) S hg hK hR hS hF (by decide) rfl rfl rfl (by decide) wf_X7_72 rfl (by decide +kernel) rfl rfl (Nat.le_of_ble_eq_true rfl) dX7_cross_241 (fun H locs M82 hR hS hF => ?_)
            refine lv_iload S.1 S.2.1 dX7_cross_244 (lv_at hl 4 rfl) ?_
            exact z_zretc S hr hlk hR hS (by decide) hF dX7_cross_246
theorem hX7_sliding : yX7_sliding.cls = RX7 ∧ yX7_sliding.cls ≠ "java/lang/invoke/MethodHandle" ∧ yX7_sliding.cls ≠ "java/lang/invoke/VarHandle" ∧ (parseMethodDescriptor yX7_sliding.desc).map (fun d => d.parameters.length) = some 2 := by decide +kernel
theorem oX7_sliding : Cond.instanceMethod yX7_sliding ∈ zT ∧ Cond.selects RX7 yX7_sliding yX7_sliding ∈ zT ∧ Cond.initialized RX7 ∈ zT ∧ Cond.code yX7_sliding cX7_sliding 3 (some .int) ∈ zT := ⟨wv_X7_sliding, we_X7_sliding, wi_X7, wk_X7_sliding⟩
set_option maxRecDepth 100000 in
set_option maxHeartbeats 4000000 in
theorem kX7_sliding (l : Launch) {g : zGeo} {z : Nat} (hg : zAd g z) {M M' : zM} {v1 : Int32} {v2 : Int32} {r : Int32} (hF : fX7_sliding M v1 v2 = some (r, M')) : Met l yX7_sliding [.code yX7_sliding cX7_sliding 3 (some .int)] { frames := 1, cells := 0, slots := 0, locals := 22 } (zPc g M [.ref (g.1 26 0), .int v1, .int v2]) (zQi g z r M') 0 0 (zS z) := by
  refine z_enter (cc := cX7_sliding) (maxL := 3) (ret := (some .int)) (by decide) rfl (Nat.le_of_ble_eq_true rfl) ?_
  intro p e s m below meth c S hr hlk hK hR hS ls hl
  have S : CallFix p m c cX7_sliding 3 s _ zT RX7 := S
  have hl : lv_has ls 3 [(0, .ref (g.1 26 0)), (1, .int v1), (2, .int v2)] := hl
  unfold fX7_sliding at hF
  refine lv_iconst (v := 1) S.1 S.2.1 dX7_sliding_0 (by decide) ?_
  refine lv_aload_n S.1 S.2.1 dX7_sliding_1 rfl (lv_at hl 0 rfl) ?_
  refine lv_iload_n S.1 S.2.1 dX7_sliding_2 rfl (lv_at hl 1 rfl) ?_
  refine lv_iconst (v := 3) S.1 S.2.1 dX7_sliding_3 (by decide) ?_
  refine z_goi hS hF (fun _ _ ho => va_runV (C := RX7) (n := 2) (As := [.int v1, .int 3]) (rest := [.int 1]) S (kX7_part l hg ho) (cwV 2 S.2.2.2.2 (zgV wm_X7_43 oX7_part) rfl rfl rfl hX7_part ⟨Nat.le_of_ble_eq_true rfl, Nat.le_of_ble_eq_true rfl⟩) ⟨zPc_blind, z_recv hK hR (by decide) rfl rfl, z_pre hK hR⟩ rfl rfl hl.1 rfl (lv_room (Nat.le_of_ble_eq_true rfl)) dX7_sliding_4 ⟨Nat.zero_le _, Nat.zero_le _⟩) (fun r22 M21 H locs hR hS hF => ?_)
  refine lv_aload_n S.1 S.2.1 dX7_sliding_7 rfl (lv_at hl 0 rfl) ?_
  refine lv_iload_n S.1 S.2.1 dX7_sliding_8 rfl (lv_at hl 2 rfl) ?_
  refine lv_iconst (v := 3) S.1 S.2.1 dX7_sliding_9 (by decide) ?_
  refine z_goi hS hF (fun _ _ ho => va_runV (C := RX7) (n := 2) (As := [.int v2, .int 3]) (rest := [.int r22, .int 1]) S (kX7_part l hg ho) (cwV 2 S.2.2.2.2 (zgV wm_X7_43 oX7_part) rfl rfl rfl hX7_part ⟨Nat.le_of_ble_eq_true rfl, Nat.le_of_ble_eq_true rfl⟩) ⟨zPc_blind, z_recv hK hR (by decide) rfl rfl, z_pre hK hR⟩ rfl rfl hl.1 rfl (lv_room (Nat.le_of_ble_eq_true rfl)) dX7_sliding_10 ⟨Nat.zero_le _, Nat.zero_le _⟩) (fun r24 M23 H locs hR hS hF => ?_)
  refine lv_isub S.1 S.2.1 dX7_sliding_13 ?_
  refine z_goi hS hF (fun _ _ ho => va_runS (n := 1) (As := [.int (r22 - r24)]) (rest := [.int 1]) S (kX7_size l hg ho) (va_cwS 1 S.2.2.2.2 (zgS wm_X7_63 oX7_size) rfl rfl rfl hX7_size.2 ⟨Nat.le_of_ble_eq_true rfl, Nat.le_of_ble_eq_true rfl⟩) ⟨zPc_blind, z_pre hK hR⟩ rfl rfl hl.1 rfl (lv_room (Nat.le_of_ble_eq_true rfl)) dX7_sliding_14 ⟨Nat.zero_le _, Nat.zero_le _⟩) (fun r26 M25 H locs hR hS hF => ?_)
  refine lv_iadd S.1 S.2.1 dX7_sliding_17 ?_
  refine lv_aload_n S.1 S.2.1 dX7_sliding_18 rfl (lv_at hl 0 rfl) ?_
  refine lv_iload_n S.1 S.2.1 dX7_sliding_19 rfl (lv_at hl 1 rfl) ?_
  refine lv_iconst (v := 4) S.1 S.2.1 dX7_sliding_20 (by decide) ?_
  refine z_goi hS hF (fun _ _ ho => va_runV (C := RX7) (n := 2) (As := [.int v1, .int 4]) (rest := [.int (1 + r26)]) S (kX7_part l hg ho) (cwV 2 S.2.2.2.2 (zgV wm_X7_43 oX7_part) rfl rfl rfl hX7_part ⟨Nat.le_of_ble_eq_true rfl, Nat.le_of_ble_eq_true rfl⟩) ⟨zPc_blind, z_recv hK hR (by decide) rfl rfl, z_pre hK hR⟩ rfl rfl hl.1 rfl (lv_room (Nat.le_of_ble_eq_true rfl)) dX7_sliding_21 ⟨Nat.zero_le _, Nat.zero_le _⟩) (fun r28 M27 H locs hR hS hF => ?_)
  refine lv_aload_n S.1 S.2.1 dX7_sliding_24 rfl (lv_at hl 0 rfl) ?_
  refine lv_iload_n S.1 S.2.1 dX7_sliding_25 rfl (lv_at hl 2 rfl) ?_
  refine lv_iconst (v := 4) S.1 S.2.1 dX7_sliding_26 (by decide) ?_
  refine z_goi hS hF (fun _ _ ho => va_runV (C := RX7) (n := 2) (As := [.int v2, .int 4]) (rest := [.int r28, .int (1 + r26)]) S (kX7_part l hg ho) (cwV 2 S.2.2.2.2 (zgV wm_X7_43 oX7_part) rfl rfl rfl hX7_part ⟨Nat.le_of_ble_eq_true rfl, Nat.le_of_ble_eq_true rfl⟩) ⟨zPc_blind, z_recv hK hR (by decide) rfl rfl, z_pre hK hR⟩ rfl rfl hl.1 rfl (lv_room (Nat.le_of_ble_eq_true rfl)) dX7_sliding_27 ⟨Nat.zero_le _, Nat.zero_le _⟩) (fun r30 M29 H locs hR hS hF => ?_)
  refine lv_isub S.1 S.2.1 dX7_sliding_30 ?_
  refine z_goi hS hF (fun _ _ ho => va_runS (n := 1) (As := [.int (r28 - r30)]) (rest := [.int (1 + r26)]) S (kX7_size l hg ho) (va_cwS 1 S.2.2.2.2 (zgS wm_X7_63 oX7_size) rfl rfl rfl hX7_size.2 ⟨Nat.le_of_ble_eq_true rfl, Nat.le_of_ble_eq_true rfl⟩) ⟨zPc_blind, z_pre hK hR⟩ rfl rfl hl.1 rfl (lv_room (Nat.le_of_ble_eq_true rfl)) dX7_sliding_31 ⟨Nat.zero_le _, Nat.zero_le _⟩) (fun r32 M31 H locs hR hS hF => ?_)
  refine lv_iadd S.1 S.2.1 dX7_sliding_34 ?_
  exact z_iret S hr hlk hR hS hF dX7_sliding_35
theorem hX7_more : yX7_more.cls = RX7 ∧ yX7_more.cls ≠ "java/lang/invoke/MethodHandle" ∧ yX7_more.cls ≠ "java/lang/invoke/VarHandle" ∧ (parseMethodDescriptor yX7_more.desc).map (fun d => d.parameters.length) = some 2 := by decide +kernel
theorem oX7_more : Cond.instanceMethod yX7_more ∈ zT ∧ Cond.selects RX7 yX7_more yX7_more ∈ zT ∧ Cond.initialized RX7 ∈ zT ∧ Cond.code yX7_more cX7_more 3 (some .int) ∈ zT := ⟨wv_X7_more, we_X7_more, wi_X7, wk_X7_more⟩
set_option maxRecDepth 100000 in
set_option maxHeartbeats 4000000 in
theorem kX7_more (l : Launch) {g : zGeo} {z : Nat} (hg : zAd g z) {M M' : zM} {v1 : Int32} {v2 : Int32} {r : Int32} (hF : fX7_more M v1 v2 = some (r, M')) : Met l yX7_more [.code yX7_more cX7_more 3 (some .int)] { frames := 2, cells := 0, slots := 0, locals := 44 } (zPc g M [.ref (g.1 26 0), .int v1, .int v2]) (zQi g z r M') 0 0 (zS z) := by
  refine z_enter (cc := cX7_more) (maxL := 3) (ret := (some .int)) (by decide) rfl (Nat.le_of_ble_eq_true rfl) ?_
  intro p e s m below meth c S hr hlk hK hR hS ls hl
  have S : CallFix p m c cX7_more 3 s _ zT RX7 := S
  have hl : lv_has ls 3 [(0, .ref (g.1 26 0)), (1, .int v1), (2, .int v2)] := hl
  unfold fX7_more at hF
  refine lv_aload_n S.1 S.2.1 dX7_more_0 rfl (lv_at hl 0 rfl) ?_
  refine lv_iload_n S.1 S.2.1 dX7_more_1 rfl (lv_at hl 2 rfl) ?_
  refine lv_iconst (v := 5) S.1 S.2.1 dX7_more_2 (by decide) ?_
  refine z_goi hS hF (fun _ _ ho => va_runV (C := RX7) (n := 2) (As := [.int v2, .int 5]) (rest := []) S (kX7_part l hg ho) (cwV 2 S.2.2.2.2 (zgV wm_X7_43 oX7_part) rfl rfl rfl hX7_part ⟨Nat.le_of_ble_eq_true rfl, Nat.le_of_ble_eq_true rfl⟩) ⟨zPc_blind, z_recv hK hR (by decide) rfl rfl, z_pre hK hR⟩ rfl rfl hl.1 rfl (lv_room (Nat.le_of_ble_eq_true rfl)) dX7_more_3 ⟨Nat.zero_le _, Nat.zero_le _⟩) (fun r22 M21 H locs hR hS hF => ?_)
  refine lv_aload_n S.1 S.2.1 dX7_more_6 rfl (lv_at hl 0 rfl) ?_
  refine lv_iload_n S.1 S.2.1 dX7_more_7 rfl (lv_at hl 1 rfl) ?_
  refine lv_iload_n S.1 S.2.1 dX7_more_8 rfl (lv_at hl 2 rfl) ?_
  refine z_goi hS hF (fun _ _ ho => va_runV (C := RX7) (n := 2) (As := [.int v1, .int v2]) (rest := [.int r22]) S (kX7_sliding l hg ho) (cwV 2 S.2.2.2.2 (zgV wm_X7_76 oX7_sliding) rfl rfl rfl hX7_sliding ⟨Nat.le_of_ble_eq_true rfl, Nat.le_of_ble_eq_true rfl⟩) ⟨zPc_blind, z_recv hK hR (by decide) rfl rfl, z_pre hK hR⟩ rfl rfl hl.1 rfl (lv_room (Nat.le_of_ble_eq_true rfl)) dX7_more_9 ⟨Nat.zero_le _, Nat.zero_le _⟩) (fun r24 M23 H locs hR hS hF => ?_)
  refine lv_imul S.1 S.2.1 dX7_more_12 ?_
  refine lv_aload_n S.1 S.2.1 dX7_more_13 rfl (lv_at hl 0 rfl) ?_
  refine z_get (k := 26) (i := 0) (f := 11) (v := .int (M23 26 0 11)) S hK hR (by decide) rfl rfl (by decide) wf_X7_72 rfl dX7_more_14 ?_
  refine lv_if_eq (tgt := 24) S.1 S.2.1 dX7_more_17 (by decide) (fun hc => ?_) (fun hc => ?_)
  · replace hF := z_ct hF hc
    refine lv_iconst (v := 1) S.1 S.2.1 dX7_more_24 (by decide) ?_
    refine lv_imul S.1 S.2.1 dX7_more_25 ?_
    exact z_iret S hr hlk hR hS hF dX7_more_26
  · replace hF := z_cf hF hc
    refine lv_iconst (v := 2) S.1 S.2.1 dX7_more_20 (by decide) ?_
    refine lv_goto (tgt := 25) S.1 S.2.1 dX7_more_21 (by decide) ?_
    refine lv_imul S.1 S.2.1 dX7_more_25 ?_
    exact z_iret S hr hlk hR hS hF dX7_more_26
theorem hX7_crossingsMany : yX7_crossingsMany.cls = RX7 ∧ yX7_crossingsMany.cls ≠ "java/lang/invoke/MethodHandle" ∧ yX7_crossingsMany.cls ≠ "java/lang/invoke/VarHandle" ∧ (parseMethodDescriptor yX7_crossingsMany.desc).map (fun d => d.parameters.length) = some 0 := by decide +kernel
theorem oX7_crossingsMany : Cond.instanceMethod yX7_crossingsMany ∈ zT ∧ Cond.selects RX7 yX7_crossingsMany yX7_crossingsMany ∈ zT ∧ Cond.initialized RX7 ∈ zT ∧ Cond.code yX7_crossingsMany cX7_crossingsMany 4 (some .int) ∈ zT := ⟨wv_X7_crossingsMany, we_X7_crossingsMany, wi_X7, wk_X7_crossingsMany⟩
set_option maxRecDepth 100000 in
set_option maxHeartbeats 4000000 in
theorem kX7_crossingsMany (l : Launch) {g : zGeo} {z : Nat} (hg : zAd g z) {M M' : zM}  {r : Int32} (hF : fX7_crossingsMany M = some (r, M')) : Met l yX7_crossingsMany [.code yX7_crossingsMany cX7_crossingsMany 4 (some .int)] { frames := 3, cells := 0, slots := 0, locals := 76 } (zPc g M [.ref (g.1 26 0)]) (zQi g z r M') 0 0 (zS z) := by
  refine z_enter (cc := cX7_crossingsMany) (maxL := 4) (ret := (some .int)) (by decide) rfl (Nat.le_of_ble_eq_true rfl) ?_
  intro p e s m below meth c S hr hlk hK hR hS ls hl
  have S : CallFix p m c cX7_crossingsMany 4 s _ zT RX7 := S
  have hl : lv_has ls 4 [(0, .ref (g.1 26 0))] := hl
  have L16 : ∀ (k : zM → Int32 → Int32 → Option (Int32 × zM)) (a2 : Int32), (∀ (M : zM) (a1 : Int32) (a3 : Int32) (H : Heap) (locs : List Loc), zR g M H → va_S (zS z) s.heap H locs → ∀ ls : Array Slot, lv_has ls 4 [(0, .ref (g.1 26 0)), (1, .int a1), (2, .int a2), (3, .int a3)] → k M a1 a3 = some (r, M') → W p l e { frames := 3, cells := 0, slots := 0, locals := 76 } s m ([.ref (g.1 26 0)] : List Value).toArray below meth c H locs 0 0 (MQ below (zQi g z r M') ([.ref (g.1 26 0)] : List Value).toArray s 0 0 (zS z)) (F0 m 44 ls [])) → ∀ (n : Nat) (M : zM) (a1 : Int32) (a3 : Int32) (H : Heap) (locs : List Loc), zR g M H → va_S (zS z) s.heap H locs → ∀ ls : Array Slot, lv_has ls 4 [(0, .ref (g.1 26 0)), (1, .int a1), (2, .int a2), (3, .int a3)] → fX7_crossingsMany_L16 k a2 n M a1 a3 = some (r, M') → W p l e { frames := 3, cells := 0, slots := 0, locals := 76 } s m ([.ref (g.1 26 0)] : List Value).toArray below meth c H locs 0 0 (MQ below (zQi g z r M') ([.ref (g.1 26 0)] : List Value).toArray s 0 0 (zS z)) (F0 m 16 ls []) := by
    intro k a2 hk n
    induction n with
    | zero =>
      intro M a1 a3 H locs hR hS ls hl hF
      cases hF
    | succ n ih =>
      intro M a1 a3 H locs hR hS ls hl hF
      unfold fX7_crossingsMany_L16 at hF
      refine lv_iload_n S.1 S.2.1 dX7_crossingsMany_16 rfl (lv_at hl 3 rfl) ?_
      refine lv_iload_n S.1 S.2.1 dX7_crossingsMany_17 rfl (lv_at hl 2 rfl) ?_
      refine lv_icmp_ge (tgt := 44) S.1 S.2.1 dX7_crossingsMany_18 (by decide) (fun hc => ?_) (fun hc => ?_)
      · replace hF := z_ct hF hc
        exact hk _ _ _ _ _ hR hS _ (lv_sub hl [0, 1, 2, 3] rfl) hF
      · replace hF := z_cf hF hc
        refine lv_iload_n S.1 S.2.1 dX7_crossingsMany_21 rfl (lv_at hl 1 rfl) ?_
        refine lv_aload_n S.1 S.2.1 dX7_crossingsMany_22 rfl (lv_at hl 0 rfl) ?_
        refine lv_iload_n S.1 S.2.1 dX7_crossingsMany_23 rfl (lv_at hl 2 rfl) ?_
        refine lv_iload_n S.1 S.2.1 dX7_crossingsMany_24 rfl (lv_at hl 3 rfl) ?_
        refine z_goi hS hF (fun _ _ ho => va_runV (C := RX7) (n := 2) (As := [.int a2, .int a3]) (rest := [.int a1]) S (kX7_cross l hg ho) (cwV 2 S.2.2.2.2 (zgV wm_X7_79 oX7_cross) rfl rfl rfl hX7_cross ⟨Nat.le_of_ble_eq_true rfl, Nat.le_of_ble_eq_true rfl⟩) ⟨zPc_blind, z_recv hK hR (by decide) rfl rfl, z_pre hK hR⟩ rfl rfl hl.1 rfl (lv_room (Nat.le_of_ble_eq_true rfl)) dX7_crossingsMany_25 ⟨Nat.zero_le _, Nat.zero_le _⟩) (fun r22 M21 H locs hR hS hF => ?_)
        refine lv_if_eq (tgt := 35) S.1 S.2.1 dX7_crossingsMany_28 (by decide) (fun hc => ?_) (fun hc => ?_)
        · replace hF := z_ct hF hc
          refine lv_iconst (v := 0) S.1 S.2.1 dX7_crossingsMany_35 (by decide) ?_
          refine lv_iadd S.1 S.2.1 dX7_crossingsMany_36 ?_
          refine z_nm hF (fun v23 hF => ?_)
          refine lv_istore_n (lv' := [(1, .int v23), (0, .ref (g.1 26 0)), (2, .int a2), (3, .int a3)]) S.1 S.2.1 dX7_crossingsMany_37 rfl hl (by decide) rfl (fun ls hl => ?_)
          obtain ⟨v24, ev24, hF⟩ := zL_out hF
          refine lv_iinc (v := v24) (lv' := [(3, .int v24), (1, .int v23), (0, .ref (g.1 26 0)), (2, .int a2)]) S.1 S.2.1 dX7_crossingsMany_38 hl (k := 3) rfl (by rw [← ev24]; rfl) (by decide) rfl (fun ls hl => ?_)
          refine lv_goto (tgt := 16) S.1 S.2.1 dX7_crossingsMany_41 (by decide) ?_
          exact ih _ _ _ _ _ hR hS _ (lv_sub hl [2, 1, 3, 0] rfl) hF
        · replace hF := z_cf hF hc
          refine lv_iconst (v := 1) S.1 S.2.1 dX7_crossingsMany_31 (by decide) ?_
          refine lv_goto (tgt := 36) S.1 S.2.1 dX7_crossingsMany_32 (by decide) ?_
          refine lv_iadd S.1 S.2.1 dX7_crossingsMany_36 ?_
          refine z_nm hF (fun v25 hF => ?_)
          refine lv_istore_n (lv' := [(1, .int v25), (0, .ref (g.1 26 0)), (2, .int a2), (3, .int a3)]) S.1 S.2.1 dX7_crossingsMany_37 rfl hl (by decide) rfl (fun ls hl => ?_)
          obtain ⟨v26, ev26, hF⟩ := zL_out hF
          refine lv_iinc (v := v26) (lv' := [(3, .int v26), (1, .int v25), (0, .ref (g.1 26 0)), (2, .int a2)]) S.1 S.2.1 dX7_crossingsMany_38 hl (k := 3) rfl (by rw [← ev26]; rfl) (by decide) rfl (fun ls hl => ?_)
          refine lv_goto (tgt := 16) S.1 S.2.1 dX7_crossingsMany_41 (by decide) ?_
          exact ih _ _ _ _ _ hR hS _ (lv_sub hl [2, 1, 3, 0] rfl) hF
  have L4 : ∀ (k : zM → Int32 → Int32 → Option (Int32 × zM)) , (∀ (M : zM) (a1 : Int32) (a2 : Int32) (H : Heap) (locs : List Loc), zR g M H → va_S (zS z) s.heap H locs → ∀ ls : Array Slot, lv_has ls 4 [(0, .ref (g.1 26 0)), (1, .int a1), (2, .int a2)] → k M a1 a2 = some (r, M') → W p l e { frames := 3, cells := 0, slots := 0, locals := 76 } s m ([.ref (g.1 26 0)] : List Value).toArray below meth c H locs 0 0 (MQ below (zQi g z r M') ([.ref (g.1 26 0)] : List Value).toArray s 0 0 (zS z)) (F0 m 50 ls [])) → ∀ (n : Nat) (M : zM) (a1 : Int32) (a2 : Int32) (H : Heap) (locs : List Loc), zR g M H → va_S (zS z) s.heap H locs → ∀ ls : Array Slot, lv_has ls 4 [(0, .ref (g.1 26 0)), (1, .int a1), (2, .int a2)] → fX7_crossingsMany_L4 k n M a1 a2 = some (r, M') → W p l e { frames := 3, cells := 0, slots := 0, locals := 76 } s m ([.ref (g.1 26 0)] : List Value).toArray below meth c H locs 0 0 (MQ below (zQi g z r M') ([.ref (g.1 26 0)] : List Value).toArray s 0 0 (zS z)) (F0 m 4 ls []) := by
    intro k  hk n
    induction n with
    | zero =>
      intro M a1 a2 H locs hR hS ls hl hF
      cases hF
    | succ n ih =>
      intro M a1 a2 H locs hR hS ls hl hF
      unfold fX7_crossingsMany_L4 at hF
      refine lv_iload_n S.1 S.2.1 dX7_crossingsMany_4 rfl (lv_at hl 2 rfl) ?_
      refine lv_aload_n S.1 S.2.1 dX7_crossingsMany_5 rfl (lv_at hl 0 rfl) ?_
      refine z_get (k := 26) (i := 0) (f := 0) (v := .ref (g.1 27 0)) S hK hR (by decide) rfl rfl (by decide) wf_X7_7 rfl dX7_crossingsMany_6 ?_
      refine lv_iconst (v := 0) S.1 S.2.1 dX7_crossingsMany_9 (by decide) ?_
      refine z_iald (k := 27) (i := 0) (n := 268) S hK hR hF (by decide) rfl dX7_crossingsMany_10 (fun hF => ?_)
      refine lv_icmp_ge (tgt := 50) S.1 S.2.1 dX7_crossingsMany_11 (by decide) (fun hc => ?_) (fun hc => ?_)
      · replace hF := z_ct hF hc
        exact hk _ _ _ _ _ hR hS _ (lv_sub hl [0, 1, 2] rfl) hF
      · replace hF := z_cf hF hc
        refine lv_iconst (v := 0) S.1 S.2.1 dX7_crossingsMany_14 (by decide) ?_
        refine lv_istore_n (lv' := [(3, .int 0), (0, .ref (g.1 26 0)), (1, .int a1), (2, .int a2)]) S.1 S.2.1 dX7_crossingsMany_15 rfl hl (by decide) rfl (fun ls hl => ?_)
        refine L16 _ _ (fun M27 v28 v29 H locs hR hS ls hl hF => ?_) _ _ _ _ _ _ hR hS _ (lv_sub hl [1, 2, 3, 0] rfl) hF
        obtain ⟨v30, ev30, hF⟩ := zL_out hF
        refine lv_iinc (v := v30) (lv' := [(2, .int v30), (0, .ref (g.1 26 0)), (1, .int v28), (3, .int v29)]) S.1 S.2.1 dX7_crossingsMany_44 hl (k := 2) rfl (by rw [← ev30]; rfl) (by decide) rfl (fun ls hl => ?_)
        refine lv_goto (tgt := 4) S.1 S.2.1 dX7_crossingsMany_47 (by decide) ?_
        exact ih _ _ _ _ _ hR hS _ (lv_sub hl [1, 2, 0] rfl) hF
  unfold fX7_crossingsMany at hF
  refine lv_iconst (v := 0) S.1 S.2.1 dX7_crossingsMany_0 (by decide) ?_
  refine lv_istore_n (lv' := [(1, .int 0), (0, .ref (g.1 26 0))]) S.1 S.2.1 dX7_crossingsMany_1 rfl hl (by decide) rfl (fun ls hl => ?_)
  refine lv_iconst (v := 0) S.1 S.2.1 dX7_crossingsMany_2 (by decide) ?_
  refine lv_istore_n (lv' := [(2, .int 0), (1, .int 0), (0, .ref (g.1 26 0))]) S.1 S.2.1 dX7_crossingsMany_3 rfl hl (by decide) rfl (fun ls hl => ?_)
  refine L4 _ (fun M31 v32 v33 H locs hR hS ls hl hF => ?_) _ _ _ _ _ _ hR hS _ (lv_sub hl [2, 1, 0] rfl) hF
  refine lv_iload_n S.1 S.2.1 dX7_crossingsMany_50 rfl (lv_at hl 1 rfl) ?_
  exact z_iret S hr hlk hR hS hF dX7_crossingsMany_51
theorem hX7_crossingOnes : yX7_crossingOnes.cls = RX7 ∧ yX7_crossingOnes.cls ≠ "java/lang/invoke/MethodHandle" ∧ yX7_crossingOnes.cls ≠ "java/lang/invoke/VarHandle" ∧ (parseMethodDescriptor yX7_crossingOnes.desc).map (fun d => d.parameters.length) = some 1 := by decide +kernel
theorem oX7_crossingOnes : Cond.instanceMethod yX7_crossingOnes ∈ zT ∧ Cond.selects RX7 yX7_crossingOnes yX7_crossingOnes ∈ zT ∧ Cond.initialized RX7 ∈ zT ∧ Cond.code yX7_crossingOnes cX7_crossingOnes 4 (some .int) ∈ zT := ⟨wv_X7_crossingOnes, we_X7_crossingOnes, wi_X7, wk_X7_crossingOnes⟩
set_option maxRecDepth 100000 in
set_option maxHeartbeats 4000000 in
theorem kX7_crossingOnes (l : Launch) {g : zGeo} {z : Nat} (hg : zAd g z) {M M' : zM} {v1 : Int32} {r : Int32} (hF : fX7_crossingOnes M v1 = some (r, M')) : Met l yX7_crossingOnes [.code yX7_crossingOnes cX7_crossingOnes 4 (some .int)] { frames := 3, cells := 0, slots := 0, locals := 76 } (zPc g M [.ref (g.1 26 0), .int v1]) (zQi g z r M') 0 0 (zS z) := by
  refine z_enter (cc := cX7_crossingOnes) (maxL := 4) (ret := (some .int)) (by decide) rfl (Nat.le_of_ble_eq_true rfl) ?_
  intro p e s m below meth c S hr hlk hK hR hS ls hl
  have S : CallFix p m c cX7_crossingOnes 4 s _ zT RX7 := S
  have hl : lv_has ls 4 [(0, .ref (g.1 26 0)), (1, .int v1)] := hl
  have L4 : ∀ (k : zM → Int32 → Int32 → Option (Int32 × zM)) (a1 : Int32), (∀ (M : zM) (a2 : Int32) (a3 : Int32) (H : Heap) (locs : List Loc), zR g M H → va_S (zS z) s.heap H locs → ∀ ls : Array Slot, lv_has ls 4 [(0, .ref (g.1 26 0)), (1, .int a1), (2, .int a2), (3, .int a3)] → k M a2 a3 = some (r, M') → W p l e { frames := 3, cells := 0, slots := 0, locals := 76 } s m ([.ref (g.1 26 0), .int v1] : List Value).toArray below meth c H locs 0 0 (MQ below (zQi g z r M') ([.ref (g.1 26 0), .int v1] : List Value).toArray s 0 0 (zS z)) (F0 m 44 ls [])) → ∀ (n : Nat) (M : zM) (a2 : Int32) (a3 : Int32) (H : Heap) (locs : List Loc), zR g M H → va_S (zS z) s.heap H locs → ∀ ls : Array Slot, lv_has ls 4 [(0, .ref (g.1 26 0)), (1, .int a1), (2, .int a2), (3, .int a3)] → fX7_crossingOnes_L4 k a1 n M a2 a3 = some (r, M') → W p l e { frames := 3, cells := 0, slots := 0, locals := 76 } s m ([.ref (g.1 26 0), .int v1] : List Value).toArray below meth c H locs 0 0 (MQ below (zQi g z r M') ([.ref (g.1 26 0), .int v1] : List Value).toArray s 0 0 (zS z)) (F0 m 4 ls []) := by
    intro k a1 hk n
    induction n with
    | zero =>
      intro M a2 a3 H locs hR hS ls hl hF
      cases hF
    | succ n ih =>
      intro M a2 a3 H locs hR hS ls hl hF
      unfold fX7_crossingOnes_L4 at hF
      refine lv_iload_n S.1 S.2.1 dX7_crossingOnes_4 rfl (lv_at hl 3 rfl) ?_
      refine lv_aload_n S.1 S.2.1 dX7_crossingOnes_5 rfl (lv_at hl 0 rfl) ?_
      refine z_get (k := 26) (i := 0) (f := 0) (v := .ref (g.1 27 0)) S hK hR (by decide) rfl rfl (by decide) wf_X7_7 rfl dX7_crossingOnes_6 ?_
      refine lv_iconst (v := 0) S.1 S.2.1 dX7_crossingOnes_9 (by decide) ?_
      refine z_iald (k := 27) (i := 0) (n := 268) S hK hR hF (by decide) rfl dX7_crossingOnes_10 (fun hF => ?_)
      refine lv_icmp_ge (tgt := 44) S.1 S.2.1 dX7_crossingOnes_11 (by decide) (fun hc => ?_) (fun hc => ?_)
      · replace hF := z_ct hF hc
        exact hk _ _ _ _ _ hR hS _ (lv_sub hl [0, 1, 2, 3] rfl) hF
      · replace hF := z_cf hF hc
        refine lv_iload_n S.1 S.2.1 dX7_crossingOnes_14 rfl (lv_at hl 2 rfl) ?_
        refine lv_iload_n S.1 S.2.1 dX7_crossingOnes_15 rfl (lv_at hl 3 rfl) ?_
        refine lv_iload_n S.1 S.2.1 dX7_crossingOnes_16 rfl (lv_at hl 1 rfl) ?_
        refine lv_icmp_eq (tgt := 35) S.1 S.2.1 dX7_crossingOnes_17 (by decide) (fun hc => ?_) (fun hc => ?_)
        · replace hF := z_ct hF hc
          refine lv_iconst (v := 0) S.1 S.2.1 dX7_crossingOnes_35 (by decide) ?_
          refine lv_ior S.1 S.2.1 dX7_crossingOnes_36 ?_
          refine z_nm hF (fun v21 hF => ?_)
          refine lv_istore_n (lv' := [(2, .int v21), (0, .ref (g.1 26 0)), (1, .int a1), (3, .int a3)]) S.1 S.2.1 dX7_crossingOnes_37 rfl hl (by decide) rfl (fun ls hl => ?_)
          obtain ⟨v22, ev22, hF⟩ := zL_out hF
          refine lv_iinc (v := v22) (lv' := [(3, .int v22), (2, .int v21), (0, .ref (g.1 26 0)), (1, .int a1)]) S.1 S.2.1 dX7_crossingOnes_38 hl (k := 3) rfl (by rw [← ev22]; rfl) (by decide) rfl (fun ls hl => ?_)
          refine lv_goto (tgt := 4) S.1 S.2.1 dX7_crossingOnes_41 (by decide) ?_
          exact ih _ _ _ _ _ hR hS _ (lv_sub hl [2, 3, 1, 0] rfl) hF
        · replace hF := z_cf hF hc
          refine lv_aload_n S.1 S.2.1 dX7_crossingOnes_20 rfl (lv_at hl 0 rfl) ?_
          refine lv_iload_n S.1 S.2.1 dX7_crossingOnes_21 rfl (lv_at hl 1 rfl) ?_
          refine lv_iload_n S.1 S.2.1 dX7_crossingOnes_22 rfl (lv_at hl 3 rfl) ?_
          refine z_goi hS hF (fun _ _ ho => va_runV (C := RX7) (n := 2) (As := [.int a1, .int a3]) (rest := [.int a2]) S (kX7_cross l hg ho) (cwV 2 S.2.2.2.2 (zgV wm_X7_79 oX7_cross) rfl rfl rfl hX7_cross ⟨Nat.le_of_ble_eq_true rfl, Nat.le_of_ble_eq_true rfl⟩) ⟨zPc_blind, z_recv hK hR (by decide) rfl rfl, z_pre hK hR⟩ rfl rfl hl.1 rfl (lv_room (Nat.le_of_ble_eq_true rfl)) dX7_crossingOnes_23 ⟨Nat.zero_le _, Nat.zero_le _⟩) (fun r24 M23 H locs hR hS hF => ?_)
          refine lv_if_eq (tgt := 35) S.1 S.2.1 dX7_crossingOnes_26 (by decide) (fun hc => ?_) (fun hc => ?_)
          · replace hF := z_ct hF hc
            refine lv_iconst (v := 0) S.1 S.2.1 dX7_crossingOnes_35 (by decide) ?_
            refine lv_ior S.1 S.2.1 dX7_crossingOnes_36 ?_
            refine z_nm hF (fun v25 hF => ?_)
            refine lv_istore_n (lv' := [(2, .int v25), (0, .ref (g.1 26 0)), (1, .int a1), (3, .int a3)]) S.1 S.2.1 dX7_crossingOnes_37 rfl hl (by decide) rfl (fun ls hl => ?_)
            obtain ⟨v26, ev26, hF⟩ := zL_out hF
            refine lv_iinc (v := v26) (lv' := [(3, .int v26), (2, .int v25), (0, .ref (g.1 26 0)), (1, .int a1)]) S.1 S.2.1 dX7_crossingOnes_38 hl (k := 3) rfl (by rw [← ev26]; rfl) (by decide) rfl (fun ls hl => ?_)
            refine lv_goto (tgt := 4) S.1 S.2.1 dX7_crossingOnes_41 (by decide) ?_
            exact ih _ _ _ _ _ hR hS _ (lv_sub hl [2, 3, 1, 0] rfl) hF
          · replace hF := z_cf hF hc
            refine lv_iconst (v := 1) S.1 S.2.1 dX7_crossingOnes_29 (by decide) ?_
            refine lv_iload_n S.1 S.2.1 dX7_crossingOnes_30 rfl (lv_at hl 3 rfl) ?_
            refine lv_ishl S.1 S.2.1 dX7_crossingOnes_31 ?_
            refine lv_goto (tgt := 36) S.1 S.2.1 dX7_crossingOnes_32 (by decide) ?_
            refine lv_ior S.1 S.2.1 dX7_crossingOnes_36 ?_
            refine z_nm hF (fun v27 hF => ?_)
            refine lv_istore_n (lv' := [(2, .int v27), (0, .ref (g.1 26 0)), (1, .int a1), (3, .int a3)]) S.1 S.2.1 dX7_crossingOnes_37 rfl hl (by decide) rfl (fun ls hl => ?_)
            obtain ⟨v28, ev28, hF⟩ := zL_out hF
            refine lv_iinc (v := v28) (lv' := [(3, .int v28), (2, .int v27), (0, .ref (g.1 26 0)), (1, .int a1)]) S.1 S.2.1 dX7_crossingOnes_38 hl (k := 3) rfl (by rw [← ev28]; rfl) (by decide) rfl (fun ls hl => ?_)
            refine lv_goto (tgt := 4) S.1 S.2.1 dX7_crossingOnes_41 (by decide) ?_
            exact ih _ _ _ _ _ hR hS _ (lv_sub hl [2, 3, 1, 0] rfl) hF
  unfold fX7_crossingOnes at hF
  refine lv_iconst (v := 0) S.1 S.2.1 dX7_crossingOnes_0 (by decide) ?_
  refine lv_istore_n (lv' := [(2, .int 0), (0, .ref (g.1 26 0)), (1, .int v1)]) S.1 S.2.1 dX7_crossingOnes_1 rfl hl (by decide) rfl (fun ls hl => ?_)
  refine lv_iconst (v := 0) S.1 S.2.1 dX7_crossingOnes_2 (by decide) ?_
  refine lv_istore_n (lv' := [(3, .int 0), (2, .int 0), (0, .ref (g.1 26 0)), (1, .int v1)]) S.1 S.2.1 dX7_crossingOnes_3 rfl hl (by decide) rfl (fun ls hl => ?_)
  refine L4 _ _ (fun M29 v30 v31 H locs hR hS ls hl hF => ?_) _ _ _ _ _ _ hR hS _ (lv_sub hl [2, 3, 1, 0] rfl) hF
  refine lv_iload_n S.1 S.2.1 dX7_crossingOnes_44 rfl (lv_at hl 2 rfl) ?_
  exact z_iret S hr hlk hR hS hF dX7_crossingOnes_45
theorem hX7_flyOn : yX7_flyOn.cls = RX7 ∧ yX7_flyOn.cls ≠ "java/lang/invoke/MethodHandle" ∧ yX7_flyOn.cls ≠ "java/lang/invoke/VarHandle" ∧ (parseMethodDescriptor yX7_flyOn.desc).map (fun d => d.parameters.length) = some 1 := by decide +kernel
theorem oX7_flyOn : Cond.instanceMethod yX7_flyOn ∈ zT ∧ Cond.selects RX7 yX7_flyOn yX7_flyOn ∈ zT ∧ Cond.initialized RX7 ∈ zT ∧ Cond.code yX7_flyOn cX7_flyOn 4 none ∈ zT := ⟨wv_X7_flyOn, we_X7_flyOn, wi_X7, wk_X7_flyOn⟩
set_option maxRecDepth 100000 in
set_option maxHeartbeats 4000000 in
theorem kX7_flyOn (l : Launch) {g : zGeo} {z : Nat} (hg : zAd g z) {M M' : zM} {v1 : Int32} {r : Unit} (hF : fX7_flyOn M v1 = some (r, M')) : Met l yX7_flyOn [.code yX7_flyOn cX7_flyOn 4 none] { frames := 1, cells := 0, slots := 0, locals := 23 } (zPc g M [.ref (g.1 26 0), .int v1]) (zQv g z M') 0 0 (zS z) := by
  refine z_enter (cc := cX7_flyOn) (maxL := 4) (ret := none) (by decide) rfl (Nat.le_of_ble_eq_true rfl) ?_
  intro p e s m below meth c S hr hlk hK hR hS ls hl
  have S : CallFix p m c cX7_flyOn 4 s _ zT RX7 := S
  have hl : lv_has ls 4 [(0, .ref (g.1 26 0)), (1, .int v1)] := hl
  unfold fX7_flyOn at hF
  refine lv_aload_n S.1 S.2.1 dX7_flyOn_0 rfl (lv_at hl 0 rfl) ?_
  refine lv_iload_n S.1 S.2.1 dX7_flyOn_1 rfl (lv_at hl 1 rfl) ?_
  refine lv_iconst (v := 1) S.1 S.2.1 dX7_flyOn_2 (by decide) ?_
  refine z_goi hS hF (fun _ _ ho => va_runV (C := RX7) (n := 2) (As := [.int v1, .int 1]) (rest := []) S (kX7_part l hg ho) (cwV 2 S.2.2.2.2 (zgV wm_X7_43 oX7_part) rfl rfl rfl hX7_part ⟨Nat.le_of_ble_eq_true rfl, Nat.le_of_ble_eq_true rfl⟩) ⟨zPc_blind, z_recv hK hR (by decide) rfl rfl, z_pre hK hR⟩ rfl rfl hl.1 rfl (lv_room (Nat.le_of_ble_eq_true rfl)) dX7_flyOn_3 ⟨Nat.zero_le _, Nat.zero_le _⟩) (fun r22 M21 H locs hR hS hF => ?_)
  refine lv_aload_n S.1 S.2.1 dX7_flyOn_6 rfl (lv_at hl 0 rfl) ?_
  refine lv_iload_n S.1 S.2.1 dX7_flyOn_7 rfl (lv_at hl 1 rfl) ?_
  refine lv_iconst (v := 3) S.1 S.2.1 dX7_flyOn_8 (by decide) ?_
  refine z_goi hS hF (fun _ _ ho => va_runV (C := RX7) (n := 2) (As := [.int v1, .int 3]) (rest := [.int r22]) S (kX7_part l hg ho) (cwV 2 S.2.2.2.2 (zgV wm_X7_43 oX7_part) rfl rfl rfl hX7_part ⟨Nat.le_of_ble_eq_true rfl, Nat.le_of_ble_eq_true rfl⟩) ⟨zPc_blind, z_recv hK hR (by decide) rfl rfl, z_pre hK hR⟩ rfl rfl hl.1 rfl (lv_room (Nat.le_of_ble_eq_true rfl)) dX7_flyOn_9 ⟨Nat.zero_le _, Nat.zero_le _⟩) (fun r24 M23 H locs hR hS hF => ?_)
  refine lv_iadd S.1 S.2.1 dX7_flyOn_12 ?_
  refine z_nm hF (fun v25 hF => ?_)
  refine lv_istore_n (lv' := [(2, .int v25), (0, .ref (g.1 26 0)), (1, .int v1)]) S.1 S.2.1 dX7_flyOn_13 rfl hl (by decide) rfl (fun ls hl => ?_)
  refine lv_aload_n S.1 S.2.1 dX7_flyOn_14 rfl (lv_at hl 1 rfl) ?_
  refine lv_iload_n S.1 S.2.1 dX7_flyOn_15 rfl (lv_at hl 2 rfl) ?_
  refine lv_iconst (v := 2) S.1 S.2.1 dX7_flyOn_16 (by decide) ?_
  refine z_goi hS hF (fun _ _ ho => va_runV (C := RX7) (n := 2) (As := [.int v1, .int 2]) (rest := []) S (kX7_part l hg ho) (cwV 2 S.2.2.2.2 (zgV wm_X7_43 oX7_part) rfl rfl rfl hX7_part ⟨Nat.le_of_ble_eq_true rfl, Nat.le_of_ble_eq_true rfl⟩) ⟨zPc_blind, z_recv hK hR (by decide) rfl rfl, z_pre hK hR⟩ rfl rfl hl.1 rfl (lv_room (Nat.le_of_ble_eq_true rfl)) dX7_flyOn_17 ⟨Nat.zero_le _, Nat.zero_le _⟩) (fun r27 M26 H locs hR hS hF => ?_)
  refine lv_aload_n S.1 S.2.1 dX7_flyOn_20 rfl (lv_at hl 1 rfl) ?_
  refine lv_iload_n S.1 S.2.1 dX7_flyOn_21 rfl (lv_at hl 2 rfl) ?_
  refine lv_iconst (v := 4) S.1 S.2.1 dX7_flyOn_22 (by decide) ?_
  refine z_goi hS hF (fun _ _ ho => va_runV (C := RX7) (n := 2) (As := [.int v1, .int 4]) (rest := [.int r27]) S (kX7_part l hg ho) (cwV 2 S.2.2.2.2 (zgV wm_X7_43 oX7_part) rfl rfl rfl hX7_part ⟨Nat.le_of_ble_eq_true rfl, Nat.le_of_ble_eq_true rfl⟩) ⟨zPc_blind, z_recv hK hR (by decide) rfl rfl, z_pre hK hR⟩ rfl rfl hl.1 rfl (lv_room (Nat.le_of_ble_eq_true rfl)) dX7_flyOn_23 ⟨Nat.zero_le _, Nat.zero_le _⟩) (fun r29 M28 H locs hR hS hF => ?_)
  refine lv_iadd S.1 S.2.1 dX7_flyOn_26 ?_
  refine z_nm hF (fun v30 hF => ?_)
  refine lv_istore_n (lv' := [(3, .int v30), (2, .int v25), (0, .ref (g.1 26 0)), (1, .int v1)]) S.1 S.2.1 dX7_flyOn_27 rfl hl (by decide) rfl (fun ls hl => ?_)
  refine lv_iload_n S.1 S.2.1 dX7_flyOn_28 rfl (lv_at hl 1 rfl) ?_
  refine lv_iconst (v := 0) S.1 S.2.1 dX7_flyOn_29 (by decide) ?_
  refine lv_bipush (v := 63) S.1 S.2.1 dX7_flyOn_30 (by decide) ?_
  refine z_goi hS hF (fun _ _ ho => va_runS (n := 3) (As := [.int v25, .int 0, .int 63]) (rest := []) S (kX7_within l hg ho) (va_cwS 3 S.2.2.2.2 (zgS wm_X7_39 oX7_within) rfl rfl rfl hX7_within.2 ⟨Nat.le_of_ble_eq_true rfl, Nat.le_of_ble_eq_true rfl⟩) ⟨zPc_blind, z_pre hK hR⟩ rfl rfl hl.1 rfl (lv_room (Nat.le_of_ble_eq_true rfl)) dX7_flyOn_32 ⟨Nat.zero_le _, Nat.zero_le _⟩) (fun r32 M31 H locs hR hS hF => ?_)
  refine lv_if_eq (tgt := 48) S.1 S.2.1 dX7_flyOn_35 (by decide) (fun hc => ?_) (fun hc => ?_)
  · replace hF := z_ct hF hc
    refine lv_aload_n S.1 S.2.1 dX7_flyOn_48 rfl (lv_at hl 2 rfl) ?_
    refine lv_iload_n S.1 S.2.1 dX7_flyOn_49 rfl (lv_at hl 3 rfl) ?_
    refine lv_iconst (v := 3) S.1 S.2.1 dX7_flyOn_50 (by decide) ?_
    refine lv_aload_n S.1 S.2.1 dX7_flyOn_51 rfl (lv_at hl 2 rfl) ?_
    refine lv_iload_n S.1 S.2.1 dX7_flyOn_52 rfl (lv_at hl 3 rfl) ?_
    refine lv_iconst (v := 3) S.1 S.2.1 dX7_flyOn_53 (by decide) ?_
    refine z_goi hS hF (fun _ _ ho => va_runV (C := RX7) (n := 2) (As := [.int v1, .int 3]) (rest := [.int 3, .int v1, .ref (g.1 26 0)]) S (kX7_part l hg ho) (cwV 2 S.2.2.2.2 (zgV wm_X7_43 oX7_part) rfl rfl rfl hX7_part ⟨Nat.le_of_ble_eq_true rfl, Nat.le_of_ble_eq_true rfl⟩) ⟨zPc_blind, z_recv hK hR (by decide) rfl rfl, z_pre hK hR⟩ rfl rfl hl.1 rfl (lv_room (Nat.le_of_ble_eq_true rfl)) dX7_flyOn_54 ⟨Nat.zero_le _, Nat.zero_le _⟩) (fun r34 M33 H locs hR hS hF => ?_)
    refine lv_ineg S.1 S.2.1 dX7_flyOn_57 ?_
    refine z_gov hS hF (fun _ _ ho => va_runV (C := RX7) (n := 3) (As := [.int v1, .int 3, .int (-r34)]) (rest := []) S (kX7_setPart l hg ho) (cwV 3 S.2.2.2.2 (zgV wm_X7_82 oX7_setPart) rfl rfl rfl hX7_setPart ⟨Nat.le_of_ble_eq_true rfl, Nat.le_of_ble_eq_true rfl⟩) ⟨zPc_blind, z_recv hK hR (by decide) rfl rfl, z_pre hK hR⟩ rfl rfl hl.1 rfl (lv_room (Nat.le_of_ble_eq_true rfl)) dX7_flyOn_58 ⟨Nat.zero_le _, Nat.zero_le _⟩) (fun M35 H locs hR hS hF => ?_)
    refine lv_iload_n S.1 S.2.1 dX7_flyOn_61 rfl (lv_at hl 0 rfl) ?_
    refine lv_iconst (v := 1) S.1 S.2.1 dX7_flyOn_62 (by decide) ?_
    refine lv_bipush (v := 47) S.1 S.2.1 dX7_flyOn_63 (by decide) ?_
    refine z_goi hS hF (fun _ _ ho => va_runS (n := 3) (As := [.int v30, .int 1, .int 47]) (rest := []) S (kX7_within l hg ho) (va_cwS 3 S.2.2.2.2 (zgS wm_X7_39 oX7_within) rfl rfl rfl hX7_within.2 ⟨Nat.le_of_ble_eq_true rfl, Nat.le_of_ble_eq_true rfl⟩) ⟨zPc_blind, z_pre hK hR⟩ rfl rfl hl.1 rfl (lv_room (Nat.le_of_ble_eq_true rfl)) dX7_flyOn_65 ⟨Nat.zero_le _, Nat.zero_le _⟩) (fun r37 M36 H locs hR hS hF => ?_)
    refine lv_if_eq (tgt := 81) S.1 S.2.1 dX7_flyOn_68 (by decide) (fun hc => ?_) (fun hc => ?_)
    · replace hF := z_ct hF hc
      refine lv_aload_n S.1 S.2.1 dX7_flyOn_81 rfl (lv_at hl 2 rfl) ?_
      refine lv_iload_n S.1 S.2.1 dX7_flyOn_82 rfl (lv_at hl 3 rfl) ?_
      refine lv_iconst (v := 4) S.1 S.2.1 dX7_flyOn_83 (by decide) ?_
      refine lv_aload_n S.1 S.2.1 dX7_flyOn_84 rfl (lv_at hl 2 rfl) ?_
      refine lv_iload_n S.1 S.2.1 dX7_flyOn_85 rfl (lv_at hl 3 rfl) ?_
      refine lv_iconst (v := 4) S.1 S.2.1 dX7_flyOn_86 (by decide) ?_
      refine z_goi hS hF (fun _ _ ho => va_runV (C := RX7) (n := 2) (As := [.int v1, .int 4]) (rest := [.int 4, .int v1, .ref (g.1 26 0)]) S (kX7_part l hg ho) (cwV 2 S.2.2.2.2 (zgV wm_X7_43 oX7_part) rfl rfl rfl hX7_part ⟨Nat.le_of_ble_eq_true rfl, Nat.le_of_ble_eq_true rfl⟩) ⟨zPc_blind, z_recv hK hR (by decide) rfl rfl, z_pre hK hR⟩ rfl rfl hl.1 rfl (lv_room (Nat.le_of_ble_eq_true rfl)) dX7_flyOn_87 ⟨Nat.zero_le _, Nat.zero_le _⟩) (fun r39 M38 H locs hR hS hF => ?_)
      refine lv_ineg S.1 S.2.1 dX7_flyOn_90 ?_
      refine z_gov hS hF (fun _ _ ho => va_runV (C := RX7) (n := 3) (As := [.int v1, .int 4, .int (-r39)]) (rest := []) S (kX7_setPart l hg ho) (cwV 3 S.2.2.2.2 (zgV wm_X7_82 oX7_setPart) rfl rfl rfl hX7_setPart ⟨Nat.le_of_ble_eq_true rfl, Nat.le_of_ble_eq_true rfl⟩) ⟨zPc_blind, z_recv hK hR (by decide) rfl rfl, z_pre hK hR⟩ rfl rfl hl.1 rfl (lv_room (Nat.le_of_ble_eq_true rfl)) dX7_flyOn_91 ⟨Nat.zero_le _, Nat.zero_le _⟩) (fun M40 H locs hR hS hF => ?_)
      exact z_vret S hr hlk hR hS hF dX7_flyOn_94
    · replace hF := z_cf hF hc
      refine lv_aload_n S.1 S.2.1 dX7_flyOn_71 rfl (lv_at hl 2 rfl) ?_
      refine lv_iload_n S.1 S.2.1 dX7_flyOn_72 rfl (lv_at hl 3 rfl) ?_
      refine lv_iconst (v := 2) S.1 S.2.1 dX7_flyOn_73 (by decide) ?_
      refine lv_iload_n S.1 S.2.1 dX7_flyOn_74 rfl (lv_at hl 0 rfl) ?_
      refine z_gov hS hF (fun _ _ ho => va_runV (C := RX7) (n := 3) (As := [.int v1, .int 2, .int v30]) (rest := []) S (kX7_setPart l hg ho) (cwV 3 S.2.2.2.2 (zgV wm_X7_82 oX7_setPart) rfl rfl rfl hX7_setPart ⟨Nat.le_of_ble_eq_true rfl, Nat.le_of_ble_eq_true rfl⟩) ⟨zPc_blind, z_recv hK hR (by decide) rfl rfl, z_pre hK hR⟩ rfl rfl hl.1 rfl (lv_room (Nat.le_of_ble_eq_true rfl)) dX7_flyOn_75 ⟨Nat.zero_le _, Nat.zero_le _⟩) (fun M41 H locs hR hS hF => ?_)
      refine lv_goto (tgt := 94) S.1 S.2.1 dX7_flyOn_78 (by decide) ?_
      exact z_vret S hr hlk hR hS hF dX7_flyOn_94
  · replace hF := z_cf hF hc
    refine lv_aload_n S.1 S.2.1 dX7_flyOn_38 rfl (lv_at hl 2 rfl) ?_
    refine lv_iload_n S.1 S.2.1 dX7_flyOn_39 rfl (lv_at hl 3 rfl) ?_
    refine lv_iconst (v := 1) S.1 S.2.1 dX7_flyOn_40 (by decide) ?_
    refine lv_iload_n S.1 S.2.1 dX7_flyOn_41 rfl (lv_at hl 1 rfl) ?_
    refine z_gov hS hF (fun _ _ ho => va_runV (C := RX7) (n := 3) (As := [.int v1, .int 1, .int v25]) (rest := []) S (kX7_setPart l hg ho) (cwV 3 S.2.2.2.2 (zgV wm_X7_82 oX7_setPart) rfl rfl rfl hX7_setPart ⟨Nat.le_of_ble_eq_true rfl, Nat.le_of_ble_eq_true rfl⟩) ⟨zPc_blind, z_recv hK hR (by decide) rfl rfl, z_pre hK hR⟩ rfl rfl hl.1 rfl (lv_room (Nat.le_of_ble_eq_true rfl)) dX7_flyOn_42 ⟨Nat.zero_le _, Nat.zero_le _⟩) (fun M42 H locs hR hS hF => ?_)
    refine lv_goto (tgt := 61) S.1 S.2.1 dX7_flyOn_45 (by decide) ?_
    refine lv_iload_n S.1 S.2.1 dX7_flyOn_61 rfl (lv_at hl 0 rfl) ?_
    refine lv_iconst (v := 1) S.1 S.2.1 dX7_flyOn_62 (by decide) ?_
    refine lv_bipush (v := 47) S.1 S.2.1 dX7_flyOn_63 (by decide) ?_
    refine z_goi hS hF (fun _ _ ho => va_runS (n := 3) (As := [.int v30, .int 1, .int 47]) (rest := []) S (kX7_within l hg ho) (va_cwS 3 S.2.2.2.2 (zgS wm_X7_39 oX7_within) rfl rfl rfl hX7_within.2 ⟨Nat.le_of_ble_eq_true rfl, Nat.le_of_ble_eq_true rfl⟩) ⟨zPc_blind, z_pre hK hR⟩ rfl rfl hl.1 rfl (lv_room (Nat.le_of_ble_eq_true rfl)) dX7_flyOn_65 ⟨Nat.zero_le _, Nat.zero_le _⟩) (fun r44 M43 H locs hR hS hF => ?_)
    refine lv_if_eq (tgt := 81) S.1 S.2.1 dX7_flyOn_68 (by decide) (fun hc => ?_) (fun hc => ?_)
    · replace hF := z_ct hF hc
      refine lv_aload_n S.1 S.2.1 dX7_flyOn_81 rfl (lv_at hl 2 rfl) ?_
      refine lv_iload_n S.1 S.2.1 dX7_flyOn_82 rfl (lv_at hl 3 rfl) ?_
      refine lv_iconst (v := 4) S.1 S.2.1 dX7_flyOn_83 (by decide) ?_
      refine lv_aload_n S.1 S.2.1 dX7_flyOn_84 rfl (lv_at hl 2 rfl) ?_
      refine lv_iload_n S.1 S.2.1 dX7_flyOn_85 rfl (lv_at hl 3 rfl) ?_
      refine lv_iconst (v := 4) S.1 S.2.1 dX7_flyOn_86 (by decide) ?_
      refine z_goi hS hF (fun _ _ ho => va_runV (C := RX7) (n := 2) (As := [.int v1, .int 4]) (rest := [.int 4, .int v1, .ref (g.1 26 0)]) S (kX7_part l hg ho) (cwV 2 S.2.2.2.2 (zgV wm_X7_43 oX7_part) rfl rfl rfl hX7_part ⟨Nat.le_of_ble_eq_true rfl, Nat.le_of_ble_eq_true rfl⟩) ⟨zPc_blind, z_recv hK hR (by decide) rfl rfl, z_pre hK hR⟩ rfl rfl hl.1 rfl (lv_room (Nat.le_of_ble_eq_true rfl)) dX7_flyOn_87 ⟨Nat.zero_le _, Nat.zero_le _⟩) (fun r46 M45 H locs hR hS hF => ?_)
      refine lv_ineg S.1 S.2.1 dX7_flyOn_90 ?_
      refine z_gov hS hF (fun _ _ ho => va_runV (C := RX7) (n := 3) (As := [.int v1, .int 4, .int (-r46)]) (rest := []) S (kX7_setPart l hg ho) (cwV 3 S.2.2.2.2 (zgV wm_X7_82 oX7_setPart) rfl rfl rfl hX7_setPart ⟨Nat.le_of_ble_eq_true rfl, Nat.le_of_ble_eq_true rfl⟩) ⟨zPc_blind, z_recv hK hR (by decide) rfl rfl, z_pre hK hR⟩ rfl rfl hl.1 rfl (lv_room (Nat.le_of_ble_eq_true rfl)) dX7_flyOn_91 ⟨Nat.zero_le _, Nat.zero_le _⟩) (fun M47 H locs hR hS hF => ?_)
      exact z_vret S hr hlk hR hS hF dX7_flyOn_94
    · replace hF := z_cf hF hc
      refine lv_aload_n S.1 S.2.1 dX7_flyOn_71 rfl (lv_at hl 2 rfl) ?_
      refine lv_iload_n S.1 S.2.1 dX7_flyOn_72 rfl (lv_at hl 3 rfl) ?_
      refine lv_iconst (v := 2) S.1 S.2.1 dX7_flyOn_73 (by decide) ?_
      refine lv_iload_n S.1 S.2.1 dX7_flyOn_74 rfl (lv_at hl 0 rfl) ?_
      refine z_gov hS hF (fun _ _ ho => va_runV (C := RX7) (n := 3) (As := [.int v1, .int 2, .int v30]) (rest := []) S (kX7_setPart l hg ho) (cwV 3 S.2.2.2.2 (zgV wm_X7_82 oX7_setPart) rfl rfl rfl hX7_setPart ⟨Nat.le_of_ble_eq_true rfl, Nat.le_of_ble_eq_true rfl⟩) ⟨zPc_blind, z_recv hK hR (by decide) rfl rfl, z_pre hK hR⟩ rfl rfl hl.1 rfl (lv_room (Nat.le_of_ble_eq_true rfl)) dX7_flyOn_75 ⟨Nat.zero_le _, Nat.zero_le _⟩) (fun M48 H locs hR hS hF => ?_)
      refine lv_goto (tgt := 94) S.1 S.2.1 dX7_flyOn_78 (by decide) ?_
      exact z_vret S hr hlk hR hS hF dX7_flyOn_94
theorem hX7_wearOut : yX7_wearOut.cls = RX7 ∧ yX7_wearOut.cls ≠ "java/lang/invoke/MethodHandle" ∧ yX7_wearOut.cls ≠ "java/lang/invoke/VarHandle" ∧ (parseMethodDescriptor yX7_wearOut.desc).map (fun d => d.parameters.length) = some 0 := by decide +kernel
theorem oX7_wearOut : Cond.instanceMethod yX7_wearOut ∈ zT ∧ Cond.selects RX7 yX7_wearOut yX7_wearOut ∈ zT ∧ Cond.initialized RX7 ∈ zT ∧ Cond.code yX7_wearOut cX7_wearOut 3 none ∈ zT := ⟨wv_X7_wearOut, we_X7_wearOut, wi_X7, wk_X7_wearOut⟩
set_option maxRecDepth 100000 in
set_option maxHeartbeats 4000000 in
theorem kX7_wearOut (l : Launch) {g : zGeo} {z : Nat} (hg : zAd g z) {M M' : zM}  {r : Unit} (hF : fX7_wearOut M = some (r, M')) : Met l yX7_wearOut [.code yX7_wearOut cX7_wearOut 3 none] { frames := 3, cells := 0, slots := 0, locals := 76 } (zPc g M [.ref (g.1 26 0)]) (zQv g z M') 0 0 (zS z) := by
  refine z_enter (cc := cX7_wearOut) (maxL := 3) (ret := none) (by decide) rfl (Nat.le_of_ble_eq_true rfl) ?_
  intro p e s m below meth c S hr hlk hK hR hS ls hl
  have S : CallFix p m c cX7_wearOut 3 s _ zT RX7 := S
  have hl : lv_has ls 3 [(0, .ref (g.1 26 0))] := hl
  have L14 : ∀ (k : zM → Int32 → Option (Unit × zM)) (a1 : Int32), (∀ (M : zM) (a2 : Int32) (H : Heap) (locs : List Loc), zR g M H → va_S (zS z) s.heap H locs → ∀ ls : Array Slot, lv_has ls 3 [(0, .ref (g.1 26 0)), (1, .int a1), (2, .int a2)] → k M a2 = some (r, M') → W p l e { frames := 3, cells := 0, slots := 0, locals := 76 } s m ([.ref (g.1 26 0)] : List Value).toArray below meth c H locs 0 0 (MQ below (zQv g z M') ([.ref (g.1 26 0)] : List Value).toArray s 0 0 (zS z)) (F0 m 103 ls [])) → ∀ (n : Nat) (M : zM) (a2 : Int32) (H : Heap) (locs : List Loc), zR g M H → va_S (zS z) s.heap H locs → ∀ ls : Array Slot, lv_has ls 3 [(0, .ref (g.1 26 0)), (1, .int a1), (2, .int a2)] → fX7_wearOut_L14 k a1 n M a2 = some (r, M') → W p l e { frames := 3, cells := 0, slots := 0, locals := 76 } s m ([.ref (g.1 26 0)] : List Value).toArray below meth c H locs 0 0 (MQ below (zQv g z M') ([.ref (g.1 26 0)] : List Value).toArray s 0 0 (zS z)) (F0 m 14 ls []) := by
    intro k a1 hk n
    induction n with
    | zero =>
      intro M a2 H locs hR hS ls hl hF
      cases hF
    | succ n ih =>
      intro M a2 H locs hR hS ls hl hF
      unfold fX7_wearOut_L14 at hF
      refine lv_iload_n S.1 S.2.1 dX7_wearOut_14 rfl (lv_at hl 2 rfl) ?_
      refine lv_aload_n S.1 S.2.1 dX7_wearOut_15 rfl (lv_at hl 0 rfl) ?_
      refine z_get (k := 26) (i := 0) (f := 0) (v := .ref (g.1 27 0)) S hK hR (by decide) rfl rfl (by decide) wf_X7_7 rfl dX7_wearOut_16 ?_
      refine lv_iconst (v := 0) S.1 S.2.1 dX7_wearOut_19 (by decide) ?_
      refine z_iald (k := 27) (i := 0) (n := 268) S hK hR hF (by decide) rfl dX7_wearOut_20 (fun hF => ?_)
      refine lv_icmp_ge (tgt := 103) S.1 S.2.1 dX7_wearOut_21 (by decide) (fun hc => ?_) (fun hc => ?_)
      · replace hF := z_ct hF hc
        exact hk _ _ _ _ hR hS _ (lv_sub hl [0, 1, 2] rfl) hF
      · replace hF := z_cf hF hc
        refine lv_aload_n S.1 S.2.1 dX7_wearOut_24 rfl (lv_at hl 0 rfl) ?_
        refine z_get (k := 26) (i := 0) (f := 8) (v := .ref (g.1 33 0)) S hK hR (by decide) rfl rfl (by decide) wf_X7_28 rfl dX7_wearOut_25 ?_
        refine lv_bipush (v := 6) S.1 S.2.1 dX7_wearOut_28 (by decide) ?_
        refine lv_iload_n S.1 S.2.1 dX7_wearOut_30 rfl (lv_at hl 1 rfl) ?_
        refine lv_imul S.1 S.2.1 dX7_wearOut_31 ?_
        refine lv_iload_n S.1 S.2.1 dX7_wearOut_32 rfl (lv_at hl 2 rfl) ?_
        refine lv_iadd S.1 S.2.1 dX7_wearOut_33 ?_
        refine lv_bipush (v := (-6)) S.1 S.2.1 dX7_wearOut_34 (by decide) ?_
        refine z_iast (k := 33) (i := 0) (n := 36) S hg hK hR hS hF (by decide) rfl dX7_wearOut_36 (fun H locs M21 hR hS hF => ?_)
        refine lv_iload_n S.1 S.2.1 dX7_wearOut_37 rfl (lv_at hl 1 rfl) ?_
        refine lv_iload_n S.1 S.2.1 dX7_wearOut_38 rfl (lv_at hl 2 rfl) ?_
        refine lv_icmp_eq (tgt := 97) S.1 S.2.1 dX7_wearOut_39 (by decide) (fun hc => ?_) (fun hc => ?_)
        · replace hF := z_ct hF hc
          obtain ⟨v22, ev22, hF⟩ := zL_out hF
          refine lv_iinc (v := v22) (lv' := [(2, .int v22), (0, .ref (g.1 26 0)), (1, .int a1)]) S.1 S.2.1 dX7_wearOut_97 hl (k := 2) rfl (by rw [← ev22]; rfl) (by decide) rfl (fun ls hl => ?_)
          refine lv_goto (tgt := 14) S.1 S.2.1 dX7_wearOut_100 (by decide) ?_
          exact ih _ _ _ _ hR hS _ (lv_sub hl [1, 2, 0] rfl) hF
        · replace hF := z_cf hF hc
          refine lv_aload_n S.1 S.2.1 dX7_wearOut_42 rfl (lv_at hl 0 rfl) ?_
          refine lv_iload_n S.1 S.2.1 dX7_wearOut_43 rfl (lv_at hl 1 rfl) ?_
          refine lv_iload_n S.1 S.2.1 dX7_wearOut_44 rfl (lv_at hl 2 rfl) ?_
          refine z_goi hS hF (fun _ _ ho => va_runV (C := RX7) (n := 2) (As := [.int a1, .int a2]) (rest := []) S (kX7_cross l hg ho) (cwV 2 S.2.2.2.2 (zgV wm_X7_79 oX7_cross) rfl rfl rfl hX7_cross ⟨Nat.le_of_ble_eq_true rfl, Nat.le_of_ble_eq_true rfl⟩) ⟨zPc_blind, z_recv hK hR (by decide) rfl rfl, z_pre hK hR⟩ rfl rfl hl.1 rfl (lv_room (Nat.le_of_ble_eq_true rfl)) dX7_wearOut_45 ⟨Nat.zero_le _, Nat.zero_le _⟩) (fun r24 M23 H locs hR hS hF => ?_)
          refine lv_if_eq (tgt := 97) S.1 S.2.1 dX7_wearOut_48 (by decide) (fun hc => ?_) (fun hc => ?_)
          · replace hF := z_ct hF hc
            obtain ⟨v25, ev25, hF⟩ := zL_out hF
            refine lv_iinc (v := v25) (lv' := [(2, .int v25), (0, .ref (g.1 26 0)), (1, .int a1)]) S.1 S.2.1 dX7_wearOut_97 hl (k := 2) rfl (by rw [← ev25]; rfl) (by decide) rfl (fun ls hl => ?_)
            refine lv_goto (tgt := 14) S.1 S.2.1 dX7_wearOut_100 (by decide) ?_
            exact ih _ _ _ _ hR hS _ (lv_sub hl [1, 2, 0] rfl) hF
          · replace hF := z_cf hF hc
            refine lv_aload_n S.1 S.2.1 dX7_wearOut_51 rfl (lv_at hl 0 rfl) ?_
            refine z_get (k := 26) (i := 0) (f := 8) (v := .ref (g.1 33 0)) S hK hR (by decide) rfl rfl (by decide) wf_X7_28 rfl dX7_wearOut_52 ?_
            refine lv_bipush (v := 6) S.1 S.2.1 dX7_wearOut_55 (by decide) ?_
            refine lv_iload_n S.1 S.2.1 dX7_wearOut_57 rfl (lv_at hl 1 rfl) ?_
            refine lv_imul S.1 S.2.1 dX7_wearOut_58 ?_
            refine lv_iload_n S.1 S.2.1 dX7_wearOut_59 rfl (lv_at hl 2 rfl) ?_
            refine lv_iadd S.1 S.2.1 dX7_wearOut_60 ?_
            refine lv_aload_n S.1 S.2.1 dX7_wearOut_61 rfl (lv_at hl 0 rfl) ?_
            refine z_get (k := 26) (i := 0) (f := 9) (v := .int (M23 26 0 9)) S hK hR (by decide) rfl rfl (by decide) wf_X7_66 rfl dX7_wearOut_62 ?_
            refine z_iast (k := 33) (i := 0) (n := 36) S hg hK hR hS hF (by decide) rfl dX7_wearOut_65 (fun H locs M26 hR hS hF => ?_)
            refine lv_aload_n S.1 S.2.1 dX7_wearOut_66 rfl (lv_at hl 0 rfl) ?_
            refine lv_iload_n S.1 S.2.1 dX7_wearOut_67 rfl (lv_at hl 1 rfl) ?_
            refine lv_bipush (v := 12) S.1 S.2.1 dX7_wearOut_68 (by decide) ?_
            refine lv_aload_n S.1 S.2.1 dX7_wearOut_70 rfl (lv_at hl 0 rfl) ?_
            refine z_get (k := 26) (i := 0) (f := 9) (v := .int (M26 26 0 9)) S hK hR (by decide) rfl rfl (by decide) wf_X7_66 rfl dX7_wearOut_71 ?_
            refine lv_iadd S.1 S.2.1 dX7_wearOut_74 ?_
            refine lv_aload_n S.1 S.2.1 dX7_wearOut_75 rfl (lv_at hl 0 rfl) ?_
            refine lv_iload_n S.1 S.2.1 dX7_wearOut_76 rfl (lv_at hl 1 rfl) ?_
            refine lv_bipush (v := 12) S.1 S.2.1 dX7_wearOut_77 (by decide) ?_
            refine lv_aload_n S.1 S.2.1 dX7_wearOut_79 rfl (lv_at hl 0 rfl) ?_
            refine z_get (k := 26) (i := 0) (f := 9) (v := .int (M26 26 0 9)) S hK hR (by decide) rfl rfl (by decide) wf_X7_66 rfl dX7_wearOut_80 ?_
            refine lv_iadd S.1 S.2.1 dX7_wearOut_83 ?_
            refine z_goi hS hF (fun _ _ ho => va_runV (C := RX7) (n := 2) (As := [.int a1, .int (12 + (M26 26 0 9))]) (rest := [.int (12 + (M26 26 0 9)), .int a1, .ref (g.1 26 0)]) S (kX7_part l hg ho) (cwV 2 S.2.2.2.2 (zgV wm_X7_43 oX7_part) rfl rfl rfl hX7_part ⟨Nat.le_of_ble_eq_true rfl, Nat.le_of_ble_eq_true rfl⟩) ⟨zPc_blind, z_recv hK hR (by decide) rfl rfl, z_pre hK hR⟩ rfl rfl hl.1 rfl (lv_room (Nat.le_of_ble_eq_true rfl)) dX7_wearOut_84 ⟨Nat.zero_le _, Nat.zero_le _⟩) (fun r28 M27 H locs hR hS hF => ?_)
            refine lv_aload_n S.1 S.2.1 dX7_wearOut_87 rfl (lv_at hl 0 rfl) ?_
            refine lv_iload_n S.1 S.2.1 dX7_wearOut_88 rfl (lv_at hl 1 rfl) ?_
            refine lv_iload_n S.1 S.2.1 dX7_wearOut_89 rfl (lv_at hl 2 rfl) ?_
            refine z_goi hS hF (fun _ _ ho => va_runV (C := RX7) (n := 2) (As := [.int a1, .int a2]) (rest := [.int r28, .int (12 + (M26 26 0 9)), .int a1, .ref (g.1 26 0)]) S (kX7_more l hg ho) (cwV 2 S.2.2.2.2 (zgV wm_X7_86 oX7_more) rfl rfl rfl hX7_more ⟨Nat.le_of_ble_eq_true rfl, Nat.le_of_ble_eq_true rfl⟩) ⟨zPc_blind, z_recv hK hR (by decide) rfl rfl, z_pre hK hR⟩ rfl rfl hl.1 rfl (lv_room (Nat.le_of_ble_eq_true rfl)) dX7_wearOut_90 ⟨Nat.zero_le _, Nat.zero_le _⟩) (fun r30 M29 H locs hR hS hF => ?_)
            refine lv_iadd S.1 S.2.1 dX7_wearOut_93 ?_
            refine z_gov hS hF (fun _ _ ho => va_runV (C := RX7) (n := 3) (As := [.int a1, .int (12 + (M26 26 0 9)), .int (r28 + r30)]) (rest := []) S (kX7_setPart l hg ho) (cwV 3 S.2.2.2.2 (zgV wm_X7_82 oX7_setPart) rfl rfl rfl hX7_setPart ⟨Nat.le_of_ble_eq_true rfl, Nat.le_of_ble_eq_true rfl⟩) ⟨zPc_blind, z_recv hK hR (by decide) rfl rfl, z_pre hK hR⟩ rfl rfl hl.1 rfl (lv_room (Nat.le_of_ble_eq_true rfl)) dX7_wearOut_94 ⟨Nat.zero_le _, Nat.zero_le _⟩) (fun M31 H locs hR hS hF => ?_)
            obtain ⟨v32, ev32, hF⟩ := zL_out hF
            refine lv_iinc (v := v32) (lv' := [(2, .int v32), (0, .ref (g.1 26 0)), (1, .int a1)]) S.1 S.2.1 dX7_wearOut_97 hl (k := 2) rfl (by rw [← ev32]; rfl) (by decide) rfl (fun ls hl => ?_)
            refine lv_goto (tgt := 14) S.1 S.2.1 dX7_wearOut_100 (by decide) ?_
            exact ih _ _ _ _ hR hS _ (lv_sub hl [1, 2, 0] rfl) hF
  have L2 : ∀ (k : zM → Int32 → Option (Unit × zM)) , (∀ (M : zM) (a1 : Int32) (H : Heap) (locs : List Loc), zR g M H → va_S (zS z) s.heap H locs → ∀ ls : Array Slot, lv_has ls 3 [(0, .ref (g.1 26 0)), (1, .int a1)] → k M a1 = some (r, M') → W p l e { frames := 3, cells := 0, slots := 0, locals := 76 } s m ([.ref (g.1 26 0)] : List Value).toArray below meth c H locs 0 0 (MQ below (zQv g z M') ([.ref (g.1 26 0)] : List Value).toArray s 0 0 (zS z)) (F0 m 109 ls [])) → ∀ (n : Nat) (M : zM) (a1 : Int32) (H : Heap) (locs : List Loc), zR g M H → va_S (zS z) s.heap H locs → ∀ ls : Array Slot, lv_has ls 3 [(0, .ref (g.1 26 0)), (1, .int a1)] → fX7_wearOut_L2 k n M a1 = some (r, M') → W p l e { frames := 3, cells := 0, slots := 0, locals := 76 } s m ([.ref (g.1 26 0)] : List Value).toArray below meth c H locs 0 0 (MQ below (zQv g z M') ([.ref (g.1 26 0)] : List Value).toArray s 0 0 (zS z)) (F0 m 2 ls []) := by
    intro k  hk n
    induction n with
    | zero =>
      intro M a1 H locs hR hS ls hl hF
      cases hF
    | succ n ih =>
      intro M a1 H locs hR hS ls hl hF
      unfold fX7_wearOut_L2 at hF
      refine lv_iload_n S.1 S.2.1 dX7_wearOut_2 rfl (lv_at hl 1 rfl) ?_
      refine lv_aload_n S.1 S.2.1 dX7_wearOut_3 rfl (lv_at hl 0 rfl) ?_
      refine z_get (k := 26) (i := 0) (f := 0) (v := .ref (g.1 27 0)) S hK hR (by decide) rfl rfl (by decide) wf_X7_7 rfl dX7_wearOut_4 ?_
      refine lv_iconst (v := 0) S.1 S.2.1 dX7_wearOut_7 (by decide) ?_
      refine z_iald (k := 27) (i := 0) (n := 268) S hK hR hF (by decide) rfl dX7_wearOut_8 (fun hF => ?_)
      refine lv_icmp_ge (tgt := 109) S.1 S.2.1 dX7_wearOut_9 (by decide) (fun hc => ?_) (fun hc => ?_)
      · replace hF := z_ct hF hc
        exact hk _ _ _ _ hR hS _ (lv_sub hl [0, 1] rfl) hF
      · replace hF := z_cf hF hc
        refine lv_iconst (v := 0) S.1 S.2.1 dX7_wearOut_12 (by decide) ?_
        refine lv_istore_n (lv' := [(2, .int 0), (0, .ref (g.1 26 0)), (1, .int a1)]) S.1 S.2.1 dX7_wearOut_13 rfl hl (by decide) rfl (fun ls hl => ?_)
        refine L14 _ _ (fun M33 v34 H locs hR hS ls hl hF => ?_) _ _ _ _ _ hR hS _ (lv_sub hl [1, 2, 0] rfl) hF
        obtain ⟨v35, ev35, hF⟩ := zL_out hF
        refine lv_iinc (v := v35) (lv' := [(1, .int v35), (0, .ref (g.1 26 0)), (2, .int v34)]) S.1 S.2.1 dX7_wearOut_103 hl (k := 1) rfl (by rw [← ev35]; rfl) (by decide) rfl (fun ls hl => ?_)
        refine lv_goto (tgt := 2) S.1 S.2.1 dX7_wearOut_106 (by decide) ?_
        exact ih _ _ _ _ hR hS _ (lv_sub hl [1, 0] rfl) hF
  unfold fX7_wearOut at hF
  refine lv_iconst (v := 0) S.1 S.2.1 dX7_wearOut_0 (by decide) ?_
  refine lv_istore_n (lv' := [(1, .int 0), (0, .ref (g.1 26 0))]) S.1 S.2.1 dX7_wearOut_1 rfl hl (by decide) rfl (fun ls hl => ?_)
  refine L2 _ (fun M36 v37 H locs hR hS ls hl hF => ?_) _ _ _ _ _ hR hS _ (lv_sub hl [1, 0] rfl) hF
  exact z_vret S hr hlk hR hS hF dX7_wearOut_109
theorem hX7_isWornAt : yX7_isWornAt.cls = RX7 ∧ yX7_isWornAt.cls ≠ "java/lang/invoke/MethodHandle" ∧ yX7_isWornAt.cls ≠ "java/lang/invoke/VarHandle" ∧ (parseMethodDescriptor yX7_isWornAt.desc).map (fun d => d.parameters.length) = some 2 := by decide +kernel
theorem oX7_isWornAt : Cond.instanceMethod yX7_isWornAt ∈ zT ∧ Cond.selects RX7 yX7_isWornAt yX7_isWornAt ∈ zT ∧ Cond.initialized RX7 ∈ zT ∧ Cond.code yX7_isWornAt cX7_isWornAt 3 (some .boolean) ∈ zT := ⟨wv_X7_isWornAt, we_X7_isWornAt, wi_X7, wk_X7_isWornAt⟩
set_option maxRecDepth 100000 in
set_option maxHeartbeats 4000000 in
theorem kX7_isWornAt (l : Launch) {g : zGeo} {z : Nat} (hg : zAd g z) {M M' : zM} {v1 : Int32} {v2 : Int32} {r : Int32} (hF : fX7_isWornAt M v1 v2 = some (r, M')) : Met l yX7_isWornAt [.code yX7_isWornAt cX7_isWornAt 3 (some .boolean)] { frames := 1, cells := 0, slots := 0, locals := 22 } (zPc g M [.ref (g.1 26 0), .int v1, .int v2]) (zQi g z r M') 0 0 (zS z) := by
  refine z_enter (cc := cX7_isWornAt) (maxL := 3) (ret := (some .boolean)) (by decide) rfl (Nat.le_of_ble_eq_true rfl) ?_
  intro p e s m below meth c S hr hlk hK hR hS ls hl
  have S : CallFix p m c cX7_isWornAt 3 s _ zT RX7 := S
  have hl : lv_has ls 3 [(0, .ref (g.1 26 0)), (1, .int v1), (2, .int v2)] := hl
  unfold fX7_isWornAt at hF
  refine lv_aload_n S.1 S.2.1 dX7_isWornAt_0 rfl (lv_at hl 0 rfl) ?_
  refine lv_iload_n S.1 S.2.1 dX7_isWornAt_1 rfl (lv_at hl 1 rfl) ?_
  refine lv_bipush (v := 12) S.1 S.2.1 dX7_isWornAt_2 (by decide) ?_
  refine lv_iload_n S.1 S.2.1 dX7_isWornAt_4 rfl (lv_at hl 2 rfl) ?_
  refine lv_iadd S.1 S.2.1 dX7_isWornAt_5 ?_
  refine z_goi hS hF (fun _ _ ho => va_runV (C := RX7) (n := 2) (As := [.int v1, .int (12 + v2)]) (rest := []) S (kX7_part l hg ho) (cwV 2 S.2.2.2.2 (zgV wm_X7_43 oX7_part) rfl rfl rfl hX7_part ⟨Nat.le_of_ble_eq_true rfl, Nat.le_of_ble_eq_true rfl⟩) ⟨zPc_blind, z_recv hK hR (by decide) rfl rfl, z_pre hK hR⟩ rfl rfl hl.1 rfl (lv_room (Nat.le_of_ble_eq_true rfl)) dX7_isWornAt_6 ⟨Nat.zero_le _, Nat.zero_le _⟩) (fun r22 M21 H locs hR hS hF => ?_)
  refine lv_aload_n S.1 S.2.1 dX7_isWornAt_9 rfl (lv_at hl 0 rfl) ?_
  refine lv_iload_n S.1 S.2.1 dX7_isWornAt_10 rfl (lv_at hl 1 rfl) ?_
  refine lv_bipush (v := 6) S.1 S.2.1 dX7_isWornAt_11 (by decide) ?_
  refine z_goi hS hF (fun _ _ ho => va_runV (C := RX7) (n := 2) (As := [.int v1, .int 6]) (rest := [.int r22]) S (kX7_part l hg ho) (cwV 2 S.2.2.2.2 (zgV wm_X7_43 oX7_part) rfl rfl rfl hX7_part ⟨Nat.le_of_ble_eq_true rfl, Nat.le_of_ble_eq_true rfl⟩) ⟨zPc_blind, z_recv hK hR (by decide) rfl rfl, z_pre hK hR⟩ rfl rfl hl.1 rfl (lv_room (Nat.le_of_ble_eq_true rfl)) dX7_isWornAt_13 ⟨Nat.zero_le _, Nat.zero_le _⟩) (fun r24 M23 H locs hR hS hF => ?_)
  refine lv_icmp_lt (tgt := 23) S.1 S.2.1 dX7_isWornAt_16 (by decide) (fun hc => ?_) (fun hc => ?_)
  · replace hF := z_ct hF hc
    refine lv_iconst (v := 0) S.1 S.2.1 dX7_isWornAt_23 (by decide) ?_
    exact z_zretc S hr hlk hR hS (by decide) hF dX7_isWornAt_24
  · replace hF := z_cf hF hc
    refine lv_iconst (v := 1) S.1 S.2.1 dX7_isWornAt_19 (by decide) ?_
    refine lv_goto (tgt := 24) S.1 S.2.1 dX7_isWornAt_20 (by decide) ?_
    exact z_zretc S hr hlk hR hS (by decide) hF dX7_isWornAt_24
theorem hX7_cutThrough : yX7_cutThrough.cls = RX7 ∧ yX7_cutThrough.cls ≠ "java/lang/invoke/MethodHandle" ∧ yX7_cutThrough.cls ≠ "java/lang/invoke/VarHandle" ∧ (parseMethodDescriptor yX7_cutThrough.desc).map (fun d => d.parameters.length) = some 0 := by decide +kernel
theorem oX7_cutThrough : Cond.instanceMethod yX7_cutThrough ∈ zT ∧ Cond.selects RX7 yX7_cutThrough yX7_cutThrough ∈ zT ∧ Cond.initialized RX7 ∈ zT ∧ Cond.code yX7_cutThrough cX7_cutThrough 4 none ∈ zT := ⟨wv_X7_cutThrough, we_X7_cutThrough, wi_X7, wk_X7_cutThrough⟩
set_option maxRecDepth 100000 in
set_option maxHeartbeats 4000000 in
theorem kX7_cutThrough (l : Launch) {g : zGeo} {z : Nat} (hg : zAd g z) {M M' : zM}  {r : Unit} (hF : fX7_cutThrough M = some (r, M')) : Met l yX7_cutThrough [.code yX7_cutThrough cX7_cutThrough 4 none] { frames := 2, cells := 0, slots := 0, locals := 45 } (zPc g M [.ref (g.1 26 0)]) (zQv g z M') 0 0 (zS z) := by
  refine z_enter (cc := cX7_cutThrough) (maxL := 4) (ret := none) (by decide) rfl (Nat.le_of_ble_eq_true rfl) ?_
  intro p e s m below meth c S hr hlk hK hR hS ls hl
  have S : CallFix p m c cX7_cutThrough 4 s _ zT RX7 := S
  have hl : lv_has ls 4 [(0, .ref (g.1 26 0))] := hl
  have L12 : ∀ (k : zM → Int32 → Option (Unit × zM)) , (∀ (M : zM) (a1 : Int32) (H : Heap) (locs : List Loc), zR g M H → va_S (zS z) s.heap H locs → ∀ ls : Array Slot, lv_has ls 4 [(0, .ref (g.1 26 0)), (1, .int a1)] → k M a1 = some (r, M') → W p l e { frames := 2, cells := 0, slots := 0, locals := 45 } s m ([.ref (g.1 26 0)] : List Value).toArray below meth c H locs 0 0 (MQ below (zQv g z M') ([.ref (g.1 26 0)] : List Value).toArray s 0 0 (zS z)) (F0 m 67 ls [])) → ∀ (n : Nat) (M : zM) (a1 : Int32) (H : Heap) (locs : List Loc), zR g M H → va_S (zS z) s.heap H locs → ∀ ls : Array Slot, lv_has ls 4 [(0, .ref (g.1 26 0)), (1, .int a1)] → fX7_cutThrough_L12 k n M a1 = some (r, M') → W p l e { frames := 2, cells := 0, slots := 0, locals := 45 } s m ([.ref (g.1 26 0)] : List Value).toArray below meth c H locs 0 0 (MQ below (zQv g z M') ([.ref (g.1 26 0)] : List Value).toArray s 0 0 (zS z)) (F0 m 12 ls []) := by
    intro k  hk n
    induction n with
    | zero =>
      intro M a1 H locs hR hS ls hl hF
      cases hF
    | succ n ih =>
      intro M a1 H locs hR hS ls hl hF
      unfold fX7_cutThrough_L12 at hF
      refine lv_iload_n S.1 S.2.1 dX7_cutThrough_12 rfl (lv_at hl 1 rfl) ?_
      refine lv_aload_n S.1 S.2.1 dX7_cutThrough_13 rfl (lv_at hl 0 rfl) ?_
      refine z_get (k := 26) (i := 0) (f := 0) (v := .ref (g.1 27 0)) S hK hR (by decide) rfl rfl (by decide) wf_X7_7 rfl dX7_cutThrough_14 ?_
      refine lv_iconst (v := 0) S.1 S.2.1 dX7_cutThrough_17 (by decide) ?_
      refine z_iald (k := 27) (i := 0) (n := 268) S hK hR hF (by decide) rfl dX7_cutThrough_18 (fun hF => ?_)
      refine lv_icmp_ge (tgt := 67) S.1 S.2.1 dX7_cutThrough_19 (by decide) (fun hc => ?_) (fun hc => ?_)
      · replace hF := z_ct hF hc
        exact hk _ _ _ _ hR hS _ (lv_sub hl [0, 1] rfl) hF
      · replace hF := z_cf hF hc
        refine lv_aload_n S.1 S.2.1 dX7_cutThrough_22 rfl (lv_at hl 0 rfl) ?_
        refine lv_dup S.1 S.2.1 dX7_cutThrough_23 rfl ?_
        refine z_get (k := 26) (i := 0) (f := 12) (v := .int (M 26 0 12)) S hK hR (by decide) rfl rfl (by decide) wf_X7_89 rfl dX7_cutThrough_24 ?_
        refine lv_aload_n S.1 S.2.1 dX7_cutThrough_27 rfl (lv_at hl 0 rfl) ?_
        refine lv_iload_n S.1 S.2.1 dX7_cutThrough_28 rfl (lv_at hl 1 rfl) ?_
        refine z_goi hS hF (fun _ _ ho => va_runV (C := RX7) (n := 1) (As := [.int a1]) (rest := [.int (M 26 0 12), .ref (g.1 26 0)]) S (kX7_flies l hg ho) (cwV 1 S.2.2.2.2 (zgV wm_X7_55 oX7_flies) rfl rfl rfl hX7_flies ⟨Nat.le_of_ble_eq_true rfl, Nat.le_of_ble_eq_true rfl⟩) ⟨zPc_blind, z_recv hK hR (by decide) rfl rfl, z_pre hK hR⟩ rfl rfl hl.1 rfl (lv_room (Nat.le_of_ble_eq_true rfl)) dX7_cutThrough_29 ⟨Nat.zero_le _, Nat.zero_le _⟩) (fun r24 M23 H locs hR hS hF => ?_)
        refine lv_if_eq (tgt := 56) S.1 S.2.1 dX7_cutThrough_32 (by decide) (fun hc => ?_) (fun hc => ?_)
        · replace hF := z_ct hF hc
          refine lv_iconst (v := 0) S.1 S.2.1 dX7_cutThrough_56 (by decide) ?_
          refine lv_ior S.1 S.2.1 dX7_cutThrough_57 ?_
          refine z_put (k := 26) (i := 0) (f := 12) (ty := .int) S hg hK hR hS hF (by decide) rfl rfl rfl (by decide) wf_X7_89 rfl (by decide +kernel) rfl rfl (Nat.le_of_ble_eq_true rfl) dX7_cutThrough_58 (fun H locs M25 hR hS hF => ?_)
          obtain ⟨v26, ev26, hF⟩ := zL_out hF
          refine lv_iinc (v := v26) (lv' := [(1, .int v26), (0, .ref (g.1 26 0))]) S.1 S.2.1 dX7_cutThrough_61 hl (k := 1) rfl (by rw [← ev26]; rfl) (by decide) rfl (fun ls hl => ?_)
          refine lv_goto (tgt := 12) S.1 S.2.1 dX7_cutThrough_64 (by decide) ?_
          exact ih _ _ _ _ hR hS _ (lv_sub hl [1, 0] rfl) hF
        · replace hF := z_cf hF hc
          refine lv_aload_n S.1 S.2.1 dX7_cutThrough_35 rfl (lv_at hl 0 rfl) ?_
          refine lv_iload_n S.1 S.2.1 dX7_cutThrough_36 rfl (lv_at hl 1 rfl) ?_
          refine z_goi hS hF (fun _ _ ho => va_runV (C := RX7) (n := 1) (As := [.int a1]) (rest := [.int (M 26 0 12), .ref (g.1 26 0)]) S (kX7_greatestWear l hg ho) (cwV 1 S.2.2.2.2 (zgV wm_X7_47 oX7_greatestWear) rfl rfl rfl hX7_greatestWear ⟨Nat.le_of_ble_eq_true rfl, Nat.le_of_ble_eq_true rfl⟩) ⟨zPc_blind, z_recv hK hR (by decide) rfl rfl, z_pre hK hR⟩ rfl rfl hl.1 rfl (lv_room (Nat.le_of_ble_eq_true rfl)) dX7_cutThrough_37 ⟨Nat.zero_le _, Nat.zero_le _⟩) (fun r28 M27 H locs hR hS hF => ?_)
          refine lv_aload_n S.1 S.2.1 dX7_cutThrough_40 rfl (lv_at hl 0 rfl) ?_
          refine lv_iload_n S.1 S.2.1 dX7_cutThrough_41 rfl (lv_at hl 1 rfl) ?_
          refine lv_bipush (v := 6) S.1 S.2.1 dX7_cutThrough_42 (by decide) ?_
          refine z_goi hS hF (fun _ _ ho => va_runV (C := RX7) (n := 2) (As := [.int a1, .int 6]) (rest := [.int r28, .int (M 26 0 12), .ref (g.1 26 0)]) S (kX7_part l hg ho) (cwV 2 S.2.2.2.2 (zgV wm_X7_43 oX7_part) rfl rfl rfl hX7_part ⟨Nat.le_of_ble_eq_true rfl, Nat.le_of_ble_eq_true rfl⟩) ⟨zPc_blind, z_recv hK hR (by decide) rfl rfl, z_pre hK hR⟩ rfl rfl hl.1 rfl (lv_room (Nat.le_of_ble_eq_true rfl)) dX7_cutThrough_44 ⟨Nat.zero_le _, Nat.zero_le _⟩) (fun r30 M29 H locs hR hS hF => ?_)
          refine lv_icmp_lt (tgt := 56) S.1 S.2.1 dX7_cutThrough_47 (by decide) (fun hc => ?_) (fun hc => ?_)
          · replace hF := z_ct hF hc
            refine lv_iconst (v := 0) S.1 S.2.1 dX7_cutThrough_56 (by decide) ?_
            refine lv_ior S.1 S.2.1 dX7_cutThrough_57 ?_
            refine z_put (k := 26) (i := 0) (f := 12) (ty := .int) S hg hK hR hS hF (by decide) rfl rfl rfl (by decide) wf_X7_89 rfl (by decide +kernel) rfl rfl (Nat.le_of_ble_eq_true rfl) dX7_cutThrough_58 (fun H locs M31 hR hS hF => ?_)
            obtain ⟨v32, ev32, hF⟩ := zL_out hF
            refine lv_iinc (v := v32) (lv' := [(1, .int v32), (0, .ref (g.1 26 0))]) S.1 S.2.1 dX7_cutThrough_61 hl (k := 1) rfl (by rw [← ev32]; rfl) (by decide) rfl (fun ls hl => ?_)
            refine lv_goto (tgt := 12) S.1 S.2.1 dX7_cutThrough_64 (by decide) ?_
            exact ih _ _ _ _ hR hS _ (lv_sub hl [1, 0] rfl) hF
          · replace hF := z_cf hF hc
            refine lv_iconst (v := 1) S.1 S.2.1 dX7_cutThrough_50 (by decide) ?_
            refine lv_iload_n S.1 S.2.1 dX7_cutThrough_51 rfl (lv_at hl 1 rfl) ?_
            refine lv_ishl S.1 S.2.1 dX7_cutThrough_52 ?_
            refine lv_goto (tgt := 57) S.1 S.2.1 dX7_cutThrough_53 (by decide) ?_
            refine lv_ior S.1 S.2.1 dX7_cutThrough_57 ?_
            refine z_put (k := 26) (i := 0) (f := 12) (ty := .int) S hg hK hR hS hF (by decide) rfl rfl rfl (by decide) wf_X7_89 rfl (by decide +kernel) rfl rfl (Nat.le_of_ble_eq_true rfl) dX7_cutThrough_58 (fun H locs M33 hR hS hF => ?_)
            obtain ⟨v34, ev34, hF⟩ := zL_out hF
            refine lv_iinc (v := v34) (lv' := [(1, .int v34), (0, .ref (g.1 26 0))]) S.1 S.2.1 dX7_cutThrough_61 hl (k := 1) rfl (by rw [← ev34]; rfl) (by decide) rfl (fun ls hl => ?_)
            refine lv_goto (tgt := 12) S.1 S.2.1 dX7_cutThrough_64 (by decide) ?_
            exact ih _ _ _ _ hR hS _ (lv_sub hl [1, 0] rfl) hF
  have L81 : ∀ (k : zM → Int32 → Option (Unit × zM)) (a1 : Int32), (∀ (M : zM) (a2 : Int32) (H : Heap) (locs : List Loc), zR g M H → va_S (zS z) s.heap H locs → ∀ ls : Array Slot, lv_has ls 4 [(0, .ref (g.1 26 0)), (1, .int a1), (2, .int a2)] → k M a2 = some (r, M') → W p l e { frames := 2, cells := 0, slots := 0, locals := 45 } s m ([.ref (g.1 26 0)] : List Value).toArray below meth c H locs 0 0 (MQ below (zQv g z M') ([.ref (g.1 26 0)] : List Value).toArray s 0 0 (zS z)) (F0 m 164 ls [])) → ∀ (n : Nat) (M : zM) (a2 : Int32) (H : Heap) (locs : List Loc), zR g M H → va_S (zS z) s.heap H locs → ∀ ls : Array Slot, lv_has ls 4 [(0, .ref (g.1 26 0)), (1, .int a1), (2, .int a2)] → fX7_cutThrough_L81 k a1 n M a2 = some (r, M') → W p l e { frames := 2, cells := 0, slots := 0, locals := 45 } s m ([.ref (g.1 26 0)] : List Value).toArray below meth c H locs 0 0 (MQ below (zQv g z M') ([.ref (g.1 26 0)] : List Value).toArray s 0 0 (zS z)) (F0 m 81 ls []) := by
    intro k a1 hk n
    induction n with
    | zero =>
      intro M a2 H locs hR hS ls hl hF
      cases hF
    | succ n ih =>
      intro M a2 H locs hR hS ls hl hF
      unfold fX7_cutThrough_L81 at hF
      refine lv_iload_n S.1 S.2.1 dX7_cutThrough_81 rfl (lv_at hl 2 rfl) ?_
      refine lv_aload_n S.1 S.2.1 dX7_cutThrough_82 rfl (lv_at hl 0 rfl) ?_
      refine z_get (k := 26) (i := 0) (f := 0) (v := .ref (g.1 27 0)) S hK hR (by decide) rfl rfl (by decide) wf_X7_7 rfl dX7_cutThrough_83 ?_
      refine lv_iconst (v := 0) S.1 S.2.1 dX7_cutThrough_86 (by decide) ?_
      refine z_iald (k := 27) (i := 0) (n := 268) S hK hR hF (by decide) rfl dX7_cutThrough_87 (fun hF => ?_)
      refine lv_icmp_ge (tgt := 164) S.1 S.2.1 dX7_cutThrough_88 (by decide) (fun hc => ?_) (fun hc => ?_)
      · replace hF := z_ct hF hc
        exact hk _ _ _ _ hR hS _ (lv_sub hl [0, 1, 2] rfl) hF
      · replace hF := z_cf hF hc
        refine lv_aload_n S.1 S.2.1 dX7_cutThrough_91 rfl (lv_at hl 0 rfl) ?_
        refine z_get (k := 26) (i := 0) (f := 8) (v := .ref (g.1 33 0)) S hK hR (by decide) rfl rfl (by decide) wf_X7_28 rfl dX7_cutThrough_92 ?_
        refine lv_bipush (v := 6) S.1 S.2.1 dX7_cutThrough_95 (by decide) ?_
        refine lv_iload_n S.1 S.2.1 dX7_cutThrough_97 rfl (lv_at hl 2 rfl) ?_
        refine lv_imul S.1 S.2.1 dX7_cutThrough_98 ?_
        refine lv_iload_n S.1 S.2.1 dX7_cutThrough_99 rfl (lv_at hl 1 rfl) ?_
        refine lv_iadd S.1 S.2.1 dX7_cutThrough_100 ?_
        refine z_iald (k := 33) (i := 0) (n := 36) S hK hR hF (by decide) rfl dX7_cutThrough_101 (fun hF => ?_)
        refine z_nm hF (fun v37 hF => ?_)
        refine lv_istore_n (lv' := [(3, .int v37), (0, .ref (g.1 26 0)), (1, .int a1), (2, .int a2)]) S.1 S.2.1 dX7_cutThrough_102 rfl hl (by decide) rfl (fun ls hl => ?_)
        refine lv_iload_n S.1 S.2.1 dX7_cutThrough_103 rfl (lv_at hl 0 rfl) ?_
        refine lv_bipush (v := (-6)) S.1 S.2.1 dX7_cutThrough_104 (by decide) ?_
        refine lv_icmp_eq (tgt := 158) S.1 S.2.1 dX7_cutThrough_106 (by decide) (fun hc => ?_) (fun hc => ?_)
        · replace hF := z_ct hF hc
          obtain ⟨v38, ev38, hF⟩ := zL_out hF
          refine lv_iinc (v := v38) (lv' := [(2, .int v38), (3, .int v37), (0, .ref (g.1 26 0)), (1, .int a1)]) S.1 S.2.1 dX7_cutThrough_158 hl (k := 3) rfl (by rw [← ev38]; rfl) (by decide) rfl (fun ls hl => ?_)
          refine lv_goto (tgt := 81) S.1 S.2.1 dX7_cutThrough_161 (by decide) ?_
          exact ih _ _ _ _ hR hS _ (lv_sub hl [2, 3, 0] rfl) hF
        · replace hF := z_cf hF hc
          refine lv_aload_n S.1 S.2.1 dX7_cutThrough_109 rfl (lv_at hl 1 rfl) ?_
          refine z_get (k := 26) (i := 0) (f := 12) (v := .int (M 26 0 12)) S hK hR (by decide) rfl rfl (by decide) wf_X7_89 rfl dX7_cutThrough_110 ?_
          refine lv_iload_n S.1 S.2.1 dX7_cutThrough_113 rfl (lv_at hl 3 rfl) ?_
          refine lv_ishr S.1 S.2.1 dX7_cutThrough_114 ?_
          refine lv_iconst (v := 1) S.1 S.2.1 dX7_cutThrough_115 (by decide) ?_
          refine lv_iand S.1 S.2.1 dX7_cutThrough_116 ?_
          refine lv_iconst (v := 1) S.1 S.2.1 dX7_cutThrough_117 (by decide) ?_
          refine lv_icmp_ne (tgt := 158) S.1 S.2.1 dX7_cutThrough_118 (by decide) (fun hc => ?_) (fun hc => ?_)
          · replace hF := z_cf hF hc
            obtain ⟨v39, ev39, hF⟩ := zL_out hF
            refine lv_iinc (v := v39) (lv' := [(2, .int v39), (3, .int v37), (0, .ref (g.1 26 0)), (1, .int a1)]) S.1 S.2.1 dX7_cutThrough_158 hl (k := 3) rfl (by rw [← ev39]; rfl) (by decide) rfl (fun ls hl => ?_)
            refine lv_goto (tgt := 81) S.1 S.2.1 dX7_cutThrough_161 (by decide) ?_
            exact ih _ _ _ _ hR hS _ (lv_sub hl [2, 3, 0] rfl) hF
          · replace hF := z_ct hF hc
            refine lv_aload_n S.1 S.2.1 dX7_cutThrough_121 rfl (lv_at hl 1 rfl) ?_
            refine lv_iload_n S.1 S.2.1 dX7_cutThrough_122 rfl (lv_at hl 3 rfl) ?_
            refine lv_iload_n S.1 S.2.1 dX7_cutThrough_123 rfl (lv_at hl 0 rfl) ?_
            refine z_goi hS hF (fun _ _ ho => va_runV (C := RX7) (n := 2) (As := [.int a2, .int v37]) (rest := []) S (kX7_isWornAt l hg ho) (cwV 2 S.2.2.2.2 (zgV wm_X7_95 oX7_isWornAt) rfl rfl rfl hX7_isWornAt ⟨Nat.le_of_ble_eq_true rfl, Nat.le_of_ble_eq_true rfl⟩) ⟨zPc_blind, z_recv hK hR (by decide) rfl rfl, z_pre hK hR⟩ rfl rfl hl.1 rfl (lv_room (Nat.le_of_ble_eq_true rfl)) dX7_cutThrough_124 ⟨Nat.zero_le _, Nat.zero_le _⟩) (fun r41 M40 H locs hR hS hF => ?_)
            refine lv_if_eq (tgt := 158) S.1 S.2.1 dX7_cutThrough_127 (by decide) (fun hc => ?_) (fun hc => ?_)
            · replace hF := z_ct hF hc
              obtain ⟨v42, ev42, hF⟩ := zL_out hF
              refine lv_iinc (v := v42) (lv' := [(2, .int v42), (3, .int v37), (0, .ref (g.1 26 0)), (1, .int a1)]) S.1 S.2.1 dX7_cutThrough_158 hl (k := 3) rfl (by rw [← ev42]; rfl) (by decide) rfl (fun ls hl => ?_)
              refine lv_goto (tgt := 81) S.1 S.2.1 dX7_cutThrough_161 (by decide) ?_
              exact ih _ _ _ _ hR hS _ (lv_sub hl [2, 3, 0] rfl) hF
            · replace hF := z_cf hF hc
              refine lv_aload_n S.1 S.2.1 dX7_cutThrough_130 rfl (lv_at hl 1 rfl) ?_
              refine lv_iload_n S.1 S.2.1 dX7_cutThrough_131 rfl (lv_at hl 2 rfl) ?_
              refine lv_bipush (v := 7) S.1 S.2.1 dX7_cutThrough_132 (by decide) ?_
              refine lv_aload_n S.1 S.2.1 dX7_cutThrough_134 rfl (lv_at hl 1 rfl) ?_
              refine lv_iload_n S.1 S.2.1 dX7_cutThrough_135 rfl (lv_at hl 2 rfl) ?_
              refine lv_bipush (v := 7) S.1 S.2.1 dX7_cutThrough_136 (by decide) ?_
              refine z_goi hS hF (fun _ _ ho => va_runV (C := RX7) (n := 2) (As := [.int a1, .int 7]) (rest := [.int 7, .int a1, .ref (g.1 26 0)]) S (kX7_part l hg ho) (cwV 2 S.2.2.2.2 (zgV wm_X7_43 oX7_part) rfl rfl rfl hX7_part ⟨Nat.le_of_ble_eq_true rfl, Nat.le_of_ble_eq_true rfl⟩) ⟨zPc_blind, z_recv hK hR (by decide) rfl rfl, z_pre hK hR⟩ rfl rfl hl.1 rfl (lv_room (Nat.le_of_ble_eq_true rfl)) dX7_cutThrough_138 ⟨Nat.zero_le _, Nat.zero_le _⟩) (fun r44 M43 H locs hR hS hF => ?_)
              refine lv_iconst (v := 1) S.1 S.2.1 dX7_cutThrough_141 (by decide) ?_
              refine lv_iadd S.1 S.2.1 dX7_cutThrough_142 ?_
              refine z_gov hS hF (fun _ _ ho => va_runV (C := RX7) (n := 3) (As := [.int a1, .int 7, .int (r44 + 1)]) (rest := []) S (kX7_setPart l hg ho) (cwV 3 S.2.2.2.2 (zgV wm_X7_82 oX7_setPart) rfl rfl rfl hX7_setPart ⟨Nat.le_of_ble_eq_true rfl, Nat.le_of_ble_eq_true rfl⟩) ⟨zPc_blind, z_recv hK hR (by decide) rfl rfl, z_pre hK hR⟩ rfl rfl hl.1 rfl (lv_room (Nat.le_of_ble_eq_true rfl)) dX7_cutThrough_143 ⟨Nat.zero_le _, Nat.zero_le _⟩) (fun M45 H locs hR hS hF => ?_)
              refine lv_aload_n S.1 S.2.1 dX7_cutThrough_146 rfl (lv_at hl 1 rfl) ?_
              refine lv_dup S.1 S.2.1 dX7_cutThrough_147 rfl ?_
              refine z_get (k := 26) (i := 0) (f := 13) (v := .int (M45 26 0 13)) S hK hR (by decide) rfl rfl (by decide) wf_X7_92 rfl dX7_cutThrough_148 ?_
              refine lv_iconst (v := 1) S.1 S.2.1 dX7_cutThrough_151 (by decide) ?_
              refine lv_iload_n S.1 S.2.1 dX7_cutThrough_152 rfl (lv_at hl 2 rfl) ?_
              refine lv_ishl S.1 S.2.1 dX7_cutThrough_153 ?_
              refine lv_ior S.1 S.2.1 dX7_cutThrough_154 ?_
              refine z_put (k := 26) (i := 0) (f := 13) (ty := .int) S hg hK hR hS hF (by decide) rfl rfl rfl (by decide) wf_X7_92 rfl (by decide +kernel) rfl rfl (Nat.le_of_ble_eq_true rfl) dX7_cutThrough_155 (fun H locs M46 hR hS hF => ?_)
              obtain ⟨v47, ev47, hF⟩ := zL_out hF
              refine lv_iinc (v := v47) (lv' := [(2, .int v47), (3, .int v37), (0, .ref (g.1 26 0)), (1, .int a1)]) S.1 S.2.1 dX7_cutThrough_158 hl (k := 3) rfl (by rw [← ev47]; rfl) (by decide) rfl (fun ls hl => ?_)
              refine lv_goto (tgt := 81) S.1 S.2.1 dX7_cutThrough_161 (by decide) ?_
              exact ih _ _ _ _ hR hS _ (lv_sub hl [2, 3, 0] rfl) hF
  have L69 : ∀ (k : zM → Int32 → Option (Unit × zM)) , (∀ (M : zM) (a1 : Int32) (H : Heap) (locs : List Loc), zR g M H → va_S (zS z) s.heap H locs → ∀ ls : Array Slot, lv_has ls 4 [(0, .ref (g.1 26 0)), (1, .int a1)] → k M a1 = some (r, M') → W p l e { frames := 2, cells := 0, slots := 0, locals := 45 } s m ([.ref (g.1 26 0)] : List Value).toArray below meth c H locs 0 0 (MQ below (zQv g z M') ([.ref (g.1 26 0)] : List Value).toArray s 0 0 (zS z)) (F0 m 170 ls [])) → ∀ (n : Nat) (M : zM) (a1 : Int32) (H : Heap) (locs : List Loc), zR g M H → va_S (zS z) s.heap H locs → ∀ ls : Array Slot, lv_has ls 4 [(0, .ref (g.1 26 0)), (1, .int a1)] → fX7_cutThrough_L69 k n M a1 = some (r, M') → W p l e { frames := 2, cells := 0, slots := 0, locals := 45 } s m ([.ref (g.1 26 0)] : List Value).toArray below meth c H locs 0 0 (MQ below (zQv g z M') ([.ref (g.1 26 0)] : List Value).toArray s 0 0 (zS z)) (F0 m 69 ls []) := by
    intro k  hk n
    induction n with
    | zero =>
      intro M a1 H locs hR hS ls hl hF
      cases hF
    | succ n ih =>
      intro M a1 H locs hR hS ls hl hF
      unfold fX7_cutThrough_L69 at hF
      refine lv_iload_n S.1 S.2.1 dX7_cutThrough_69 rfl (lv_at hl 1 rfl) ?_
      refine lv_aload_n S.1 S.2.1 dX7_cutThrough_70 rfl (lv_at hl 0 rfl) ?_
      refine z_get (k := 26) (i := 0) (f := 0) (v := .ref (g.1 27 0)) S hK hR (by decide) rfl rfl (by decide) wf_X7_7 rfl dX7_cutThrough_71 ?_
      refine lv_iconst (v := 0) S.1 S.2.1 dX7_cutThrough_74 (by decide) ?_
      refine z_iald (k := 27) (i := 0) (n := 268) S hK hR hF (by decide) rfl dX7_cutThrough_75 (fun hF => ?_)
      refine lv_icmp_ge (tgt := 170) S.1 S.2.1 dX7_cutThrough_76 (by decide) (fun hc => ?_) (fun hc => ?_)
      · replace hF := z_ct hF hc
        exact hk _ _ _ _ hR hS _ (lv_sub hl [0, 1] rfl) hF
      · replace hF := z_cf hF hc
        refine lv_iconst (v := 0) S.1 S.2.1 dX7_cutThrough_79 (by decide) ?_
        refine lv_istore_n (lv' := [(2, .int 0), (0, .ref (g.1 26 0)), (1, .int a1)]) S.1 S.2.1 dX7_cutThrough_80 rfl hl (by decide) rfl (fun ls hl => ?_)
        refine L81 _ _ (fun M48 v49 H locs hR hS ls hl hF => ?_) _ _ _ _ _ hR hS _ (lv_sub hl [1, 2, 0] rfl) hF
        obtain ⟨v50, ev50, hF⟩ := zL_out hF
        refine lv_iinc (v := v50) (lv' := [(1, .int v50), (0, .ref (g.1 26 0)), (2, .int v49)]) S.1 S.2.1 dX7_cutThrough_164 hl (k := 1) rfl (by rw [← ev50]; rfl) (by decide) rfl (fun ls hl => ?_)
        refine lv_goto (tgt := 69) S.1 S.2.1 dX7_cutThrough_167 (by decide) ?_
        exact ih _ _ _ _ hR hS _ (lv_sub hl [1, 0] rfl) hF
  have L172 : ∀ (k : zM → Int32 → Option (Unit × zM)) , (∀ (M : zM) (a1 : Int32) (H : Heap) (locs : List Loc), zR g M H → va_S (zS z) s.heap H locs → ∀ ls : Array Slot, lv_has ls 4 [(0, .ref (g.1 26 0)), (1, .int a1)] → k M a1 = some (r, M') → W p l e { frames := 2, cells := 0, slots := 0, locals := 45 } s m ([.ref (g.1 26 0)] : List Value).toArray below meth c H locs 0 0 (MQ below (zQv g z M') ([.ref (g.1 26 0)] : List Value).toArray s 0 0 (zS z)) (F0 m 218 ls [])) → ∀ (n : Nat) (M : zM) (a1 : Int32) (H : Heap) (locs : List Loc), zR g M H → va_S (zS z) s.heap H locs → ∀ ls : Array Slot, lv_has ls 4 [(0, .ref (g.1 26 0)), (1, .int a1)] → fX7_cutThrough_L172 k n M a1 = some (r, M') → W p l e { frames := 2, cells := 0, slots := 0, locals := 45 } s m ([.ref (g.1 26 0)] : List Value).toArray below meth c H locs 0 0 (MQ below (zQv g z M') ([.ref (g.1 26 0)] : List Value).toArray s 0 0 (zS z)) (F0 m 172 ls []) := by
    intro k  hk n
    induction n with
    | zero =>
      intro M a1 H locs hR hS ls hl hF
      cases hF
    | succ n ih =>
      intro M a1 H locs hR hS ls hl hF
      unfold fX7_cutThrough_L172 at hF
      refine lv_iload_n S.1 S.2.1 dX7_cutThrough_172 rfl (lv_at hl 1 rfl) ?_
      refine lv_aload_n S.1 S.2.1 dX7_cutThrough_173 rfl (lv_at hl 0 rfl) ?_
      refine z_get (k := 26) (i := 0) (f := 0) (v := .ref (g.1 27 0)) S hK hR (by decide) rfl rfl (by decide) wf_X7_7 rfl dX7_cutThrough_174 ?_
      refine lv_iconst (v := 0) S.1 S.2.1 dX7_cutThrough_177 (by decide) ?_
      refine z_iald (k := 27) (i := 0) (n := 268) S hK hR hF (by decide) rfl dX7_cutThrough_178 (fun hF => ?_)
      refine lv_icmp_ge (tgt := 218) S.1 S.2.1 dX7_cutThrough_179 (by decide) (fun hc => ?_) (fun hc => ?_)
      · replace hF := z_ct hF hc
        exact hk _ _ _ _ hR hS _ (lv_sub hl [0, 1] rfl) hF
      · replace hF := z_cf hF hc
        refine lv_aload_n S.1 S.2.1 dX7_cutThrough_182 rfl (lv_at hl 0 rfl) ?_
        refine z_get (k := 26) (i := 0) (f := 12) (v := .int (M 26 0 12)) S hK hR (by decide) rfl rfl (by decide) wf_X7_89 rfl dX7_cutThrough_183 ?_
        refine lv_iload_n S.1 S.2.1 dX7_cutThrough_186 rfl (lv_at hl 1 rfl) ?_
        refine lv_ishr S.1 S.2.1 dX7_cutThrough_187 ?_
        refine lv_iconst (v := 1) S.1 S.2.1 dX7_cutThrough_188 (by decide) ?_
        refine lv_iand S.1 S.2.1 dX7_cutThrough_189 ?_
        refine lv_iconst (v := 1) S.1 S.2.1 dX7_cutThrough_190 (by decide) ?_
        refine lv_icmp_ne (tgt := 212) S.1 S.2.1 dX7_cutThrough_191 (by decide) (fun hc => ?_) (fun hc => ?_)
        · replace hF := z_cf hF hc
          obtain ⟨v53, ev53, hF⟩ := zL_out hF
          refine lv_iinc (v := v53) (lv' := [(1, .int v53), (0, .ref (g.1 26 0))]) S.1 S.2.1 dX7_cutThrough_212 hl (k := 1) rfl (by rw [← ev53]; rfl) (by decide) rfl (fun ls hl => ?_)
          refine lv_goto (tgt := 172) S.1 S.2.1 dX7_cutThrough_215 (by decide) ?_
          exact ih _ _ _ _ hR hS _ (lv_sub hl [1, 0] rfl) hF
        · replace hF := z_ct hF hc
          refine lv_aload_n S.1 S.2.1 dX7_cutThrough_194 rfl (lv_at hl 0 rfl) ?_
          refine lv_iload_n S.1 S.2.1 dX7_cutThrough_195 rfl (lv_at hl 1 rfl) ?_
          refine lv_bipush (v := 8) S.1 S.2.1 dX7_cutThrough_196 (by decide) ?_
          refine lv_iconst (v := 1) S.1 S.2.1 dX7_cutThrough_198 (by decide) ?_
          refine z_gov hS hF (fun _ _ ho => va_runV (C := RX7) (n := 3) (As := [.int a1, .int 8, .int 1]) (rest := []) S (kX7_setPart l hg ho) (cwV 3 S.2.2.2.2 (zgV wm_X7_82 oX7_setPart) rfl rfl rfl hX7_setPart ⟨Nat.le_of_ble_eq_true rfl, Nat.le_of_ble_eq_true rfl⟩) ⟨zPc_blind, z_recv hK hR (by decide) rfl rfl, z_pre hK hR⟩ rfl rfl hl.1 rfl (lv_room (Nat.le_of_ble_eq_true rfl)) dX7_cutThrough_199 ⟨Nat.zero_le _, Nat.zero_le _⟩) (fun M54 H locs hR hS hF => ?_)
          refine lv_aload_n S.1 S.2.1 dX7_cutThrough_202 rfl (lv_at hl 0 rfl) ?_
          refine z_get (k := 26) (i := 0) (f := 0) (v := .ref (g.1 27 0)) S hK hR (by decide) rfl rfl (by decide) wf_X7_7 rfl dX7_cutThrough_203 ?_
          refine lv_iconst (v := 3) S.1 S.2.1 dX7_cutThrough_206 (by decide) ?_
          refine lv_dup2_11 S.1 S.2.1 dX7_cutThrough_207 rfl rfl ?_
          refine z_iald (k := 27) (i := 0) (n := 268) S hK hR hF (by decide) rfl dX7_cutThrough_208 (fun hF => ?_)
          refine lv_iconst (v := 1) S.1 S.2.1 dX7_cutThrough_209 (by decide) ?_
          refine lv_iadd S.1 S.2.1 dX7_cutThrough_210 ?_
          refine z_iast (k := 27) (i := 0) (n := 268) S hg hK hR hS hF (by decide) rfl dX7_cutThrough_211 (fun H locs M55 hR hS hF => ?_)
          obtain ⟨v56, ev56, hF⟩ := zL_out hF
          refine lv_iinc (v := v56) (lv' := [(1, .int v56), (0, .ref (g.1 26 0))]) S.1 S.2.1 dX7_cutThrough_212 hl (k := 1) rfl (by rw [← ev56]; rfl) (by decide) rfl (fun ls hl => ?_)
          refine lv_goto (tgt := 172) S.1 S.2.1 dX7_cutThrough_215 (by decide) ?_
          exact ih _ _ _ _ hR hS _ (lv_sub hl [1, 0] rfl) hF
  unfold fX7_cutThrough at hF
  refine lv_aload_n S.1 S.2.1 dX7_cutThrough_0 rfl (lv_at hl 0 rfl) ?_
  refine lv_iconst (v := 0) S.1 S.2.1 dX7_cutThrough_1 (by decide) ?_
  refine z_put (k := 26) (i := 0) (f := 12) (ty := .int) S hg hK hR hS hF (by decide) rfl rfl rfl (by decide) wf_X7_89 rfl (by decide +kernel) rfl rfl (Nat.le_of_ble_eq_true rfl) dX7_cutThrough_2 (fun H locs M21 hR hS hF => ?_)
  refine lv_aload_n S.1 S.2.1 dX7_cutThrough_5 rfl (lv_at hl 0 rfl) ?_
  refine lv_iconst (v := 0) S.1 S.2.1 dX7_cutThrough_6 (by decide) ?_
  refine z_put (k := 26) (i := 0) (f := 13) (ty := .int) S hg hK hR hS hF (by decide) rfl rfl rfl (by decide) wf_X7_92 rfl (by decide +kernel) rfl rfl (Nat.le_of_ble_eq_true rfl) dX7_cutThrough_7 (fun H locs M22 hR hS hF => ?_)
  refine lv_iconst (v := 0) S.1 S.2.1 dX7_cutThrough_10 (by decide) ?_
  refine lv_istore_n (lv' := [(1, .int 0), (0, .ref (g.1 26 0))]) S.1 S.2.1 dX7_cutThrough_11 rfl hl (by decide) rfl (fun ls hl => ?_)
  refine L12 _ (fun M35 v36 H locs hR hS ls hl hF => ?_) _ _ _ _ _ hR hS _ (lv_sub hl [1, 0] rfl) hF
  refine lv_iconst (v := 0) S.1 S.2.1 dX7_cutThrough_67 (by decide) ?_
  refine lv_istore_n (lv' := [(1, .int 0), (0, .ref (g.1 26 0))]) S.1 S.2.1 dX7_cutThrough_68 rfl hl (by decide) rfl (fun ls hl => ?_)
  refine L69 _ (fun M51 v52 H locs hR hS ls hl hF => ?_) _ _ _ _ _ hR hS _ (lv_sub hl [1, 0] rfl) hF
  refine lv_iconst (v := 0) S.1 S.2.1 dX7_cutThrough_170 (by decide) ?_
  refine lv_istore_n (lv' := [(1, .int 0), (0, .ref (g.1 26 0))]) S.1 S.2.1 dX7_cutThrough_171 rfl hl (by decide) rfl (fun ls hl => ?_)
  refine L172 _ (fun M57 v58 H locs hR hS ls hl hF => ?_) _ _ _ _ _ hR hS _ (lv_sub hl [1, 0] rfl) hF
  exact z_vret S hr hlk hR hS hF dX7_cutThrough_218
theorem hX7_tick : yX7_tick.cls = RX7 ∧ yX7_tick.cls ≠ "java/lang/invoke/MethodHandle" ∧ yX7_tick.cls ≠ "java/lang/invoke/VarHandle" ∧ (parseMethodDescriptor yX7_tick.desc).map (fun d => d.parameters.length) = some 0 := by decide +kernel
theorem oX7_tick : Cond.instanceMethod yX7_tick ∈ zT ∧ Cond.selects RX7 yX7_tick yX7_tick ∈ zT ∧ Cond.initialized RX7 ∈ zT ∧ Cond.code yX7_tick cX7_tick 2 none ∈ zT := ⟨wv_X7_tick, we_X7_tick, wi_X7, wk_X7_tick⟩
set_option maxRecDepth 100000 in
set_option maxHeartbeats 4000000 in
theorem kX7_tick (l : Launch) {g : zGeo} {z : Nat} (hg : zAd g z) {M M' : zM}  {r : Unit} (hF : fX7_tick M = some (r, M')) : Met l yX7_tick [.code yX7_tick cX7_tick 2 none] { frames := 4, cells := 0, slots := 0, locals := 98 } (zPc g M [.ref (g.1 26 0)]) (zQv g z M') 0 0 (zS z) := by
  refine z_enter (cc := cX7_tick) (maxL := 2) (ret := none) (by decide) rfl (Nat.le_of_ble_eq_true rfl) ?_
  intro p e s m below meth c S hr hlk hK hR hS ls hl
  have S : CallFix p m c cX7_tick 2 s _ zT RX7 := S
  have hl : lv_has ls 2 [(0, .ref (g.1 26 0))] := hl
  have L2 : ∀ (k : zM → Int32 → Option (Unit × zM)) , (∀ (M : zM) (a1 : Int32) (H : Heap) (locs : List Loc), zR g M H → va_S (zS z) s.heap H locs → ∀ ls : Array Slot, lv_has ls 2 [(0, .ref (g.1 26 0)), (1, .int a1)] → k M a1 = some (r, M') → W p l e { frames := 4, cells := 0, slots := 0, locals := 98 } s m ([.ref (g.1 26 0)] : List Value).toArray below meth c H locs 0 0 (MQ below (zQv g z M') ([.ref (g.1 26 0)] : List Value).toArray s 0 0 (zS z)) (F0 m 31 ls [])) → ∀ (n : Nat) (M : zM) (a1 : Int32) (H : Heap) (locs : List Loc), zR g M H → va_S (zS z) s.heap H locs → ∀ ls : Array Slot, lv_has ls 2 [(0, .ref (g.1 26 0)), (1, .int a1)] → fX7_tick_L2 k n M a1 = some (r, M') → W p l e { frames := 4, cells := 0, slots := 0, locals := 98 } s m ([.ref (g.1 26 0)] : List Value).toArray below meth c H locs 0 0 (MQ below (zQv g z M') ([.ref (g.1 26 0)] : List Value).toArray s 0 0 (zS z)) (F0 m 2 ls []) := by
    intro k  hk n
    induction n with
    | zero =>
      intro M a1 H locs hR hS ls hl hF
      cases hF
    | succ n ih =>
      intro M a1 H locs hR hS ls hl hF
      unfold fX7_tick_L2 at hF
      refine lv_iload_n S.1 S.2.1 dX7_tick_2 rfl (lv_at hl 1 rfl) ?_
      refine lv_aload_n S.1 S.2.1 dX7_tick_3 rfl (lv_at hl 0 rfl) ?_
      refine z_get (k := 26) (i := 0) (f := 0) (v := .ref (g.1 27 0)) S hK hR (by decide) rfl rfl (by decide) wf_X7_7 rfl dX7_tick_4 ?_
      refine lv_iconst (v := 0) S.1 S.2.1 dX7_tick_7 (by decide) ?_
      refine z_iald (k := 27) (i := 0) (n := 268) S hK hR hF (by decide) rfl dX7_tick_8 (fun hF => ?_)
      refine lv_icmp_ge (tgt := 31) S.1 S.2.1 dX7_tick_9 (by decide) (fun hc => ?_) (fun hc => ?_)
      · replace hF := z_ct hF hc
        exact hk _ _ _ _ hR hS _ (lv_sub hl [0, 1] rfl) hF
      · replace hF := z_cf hF hc
        refine lv_aload_n S.1 S.2.1 dX7_tick_12 rfl (lv_at hl 0 rfl) ?_
        refine lv_iload_n S.1 S.2.1 dX7_tick_13 rfl (lv_at hl 1 rfl) ?_
        refine z_goi hS hF (fun _ _ ho => va_runV (C := RX7) (n := 1) (As := [.int a1]) (rest := []) S (kX7_flies l hg ho) (cwV 1 S.2.2.2.2 (zgV wm_X7_55 oX7_flies) rfl rfl rfl hX7_flies ⟨Nat.le_of_ble_eq_true rfl, Nat.le_of_ble_eq_true rfl⟩) ⟨zPc_blind, z_recv hK hR (by decide) rfl rfl, z_pre hK hR⟩ rfl rfl hl.1 rfl (lv_room (Nat.le_of_ble_eq_true rfl)) dX7_tick_14 ⟨Nat.zero_le _, Nat.zero_le _⟩) (fun r22 M21 H locs hR hS hF => ?_)
        refine lv_if_eq (tgt := 25) S.1 S.2.1 dX7_tick_17 (by decide) (fun hc => ?_) (fun hc => ?_)
        · replace hF := z_ct hF hc
          obtain ⟨v23, ev23, hF⟩ := zL_out hF
          refine lv_iinc (v := v23) (lv' := [(1, .int v23), (0, .ref (g.1 26 0))]) S.1 S.2.1 dX7_tick_25 hl (k := 1) rfl (by rw [← ev23]; rfl) (by decide) rfl (fun ls hl => ?_)
          refine lv_goto (tgt := 2) S.1 S.2.1 dX7_tick_28 (by decide) ?_
          exact ih _ _ _ _ hR hS _ (lv_sub hl [1, 0] rfl) hF
        · replace hF := z_cf hF hc
          refine lv_aload_n S.1 S.2.1 dX7_tick_20 rfl (lv_at hl 0 rfl) ?_
          refine lv_iload_n S.1 S.2.1 dX7_tick_21 rfl (lv_at hl 1 rfl) ?_
          refine z_gov hS hF (fun _ _ ho => va_runV (C := RX7) (n := 1) (As := [.int a1]) (rest := []) S (kX7_flyOn l hg ho) (cwV 1 S.2.2.2.2 (zgV wm_X7_98 oX7_flyOn) rfl rfl rfl hX7_flyOn ⟨Nat.le_of_ble_eq_true rfl, Nat.le_of_ble_eq_true rfl⟩) ⟨zPc_blind, z_recv hK hR (by decide) rfl rfl, z_pre hK hR⟩ rfl rfl hl.1 rfl (lv_room (Nat.le_of_ble_eq_true rfl)) dX7_tick_22 ⟨Nat.zero_le _, Nat.zero_le _⟩) (fun M24 H locs hR hS hF => ?_)
          obtain ⟨v25, ev25, hF⟩ := zL_out hF
          refine lv_iinc (v := v25) (lv' := [(1, .int v25), (0, .ref (g.1 26 0))]) S.1 S.2.1 dX7_tick_25 hl (k := 1) rfl (by rw [← ev25]; rfl) (by decide) rfl (fun ls hl => ?_)
          refine lv_goto (tgt := 2) S.1 S.2.1 dX7_tick_28 (by decide) ?_
          exact ih _ _ _ _ hR hS _ (lv_sub hl [1, 0] rfl) hF
  unfold fX7_tick at hF
  refine lv_iconst (v := 0) S.1 S.2.1 dX7_tick_0 (by decide) ?_
  refine lv_istore_n (lv' := [(1, .int 0), (0, .ref (g.1 26 0))]) S.1 S.2.1 dX7_tick_1 rfl hl (by decide) rfl (fun ls hl => ?_)
  refine L2 _ (fun M26 v27 H locs hR hS ls hl hF => ?_) _ _ _ _ _ hR hS _ (lv_sub hl [1, 0] rfl) hF
  refine lv_aload_n S.1 S.2.1 dX7_tick_31 rfl (lv_at hl 0 rfl) ?_
  refine z_gov hS hF (fun _ _ ho => va_runV (C := RX7) (n := 0) (As := []) (rest := []) S (kX7_wearOut l hg ho) (cwV 0 S.2.2.2.2 (zgV wm_X7_102 oX7_wearOut) rfl rfl rfl hX7_wearOut ⟨Nat.le_of_ble_eq_true rfl, Nat.le_of_ble_eq_true rfl⟩) ⟨zPc_blind, z_recv hK hR (by decide) rfl rfl, z_pre hK hR⟩ rfl rfl hl.1 rfl (lv_room (Nat.le_of_ble_eq_true rfl)) dX7_tick_32 ⟨Nat.zero_le _, Nat.zero_le _⟩) (fun M28 H locs hR hS hF => ?_)
  refine lv_aload_n S.1 S.2.1 dX7_tick_35 rfl (lv_at hl 0 rfl) ?_
  refine z_gov hS hF (fun _ _ ho => va_runV (C := RX7) (n := 0) (As := []) (rest := []) S (kX7_cutThrough l hg ho) (cwV 0 S.2.2.2.2 (zgV wm_X7_105 oX7_cutThrough) rfl rfl rfl hX7_cutThrough ⟨Nat.le_of_ble_eq_true rfl, Nat.le_of_ble_eq_true rfl⟩) ⟨zPc_blind, z_recv hK hR (by decide) rfl rfl, z_pre hK hR⟩ rfl rfl hl.1 rfl (lv_room (Nat.le_of_ble_eq_true rfl)) dX7_tick_36 ⟨Nat.zero_le _, Nat.zero_le _⟩) (fun M29 H locs hR hS hF => ?_)
  refine lv_aload_n S.1 S.2.1 dX7_tick_39 rfl (lv_at hl 0 rfl) ?_
  refine z_get (k := 26) (i := 0) (f := 0) (v := .ref (g.1 27 0)) S hK hR (by decide) rfl rfl (by decide) wf_X7_7 rfl dX7_tick_40 ?_
  refine lv_iconst (v := 2) S.1 S.2.1 dX7_tick_43 (by decide) ?_
  refine lv_dup2_11 S.1 S.2.1 dX7_tick_44 rfl rfl ?_
  refine z_iald (k := 27) (i := 0) (n := 268) S hK hR hF (by decide) rfl dX7_tick_45 (fun hF => ?_)
  refine lv_iconst (v := 1) S.1 S.2.1 dX7_tick_46 (by decide) ?_
  refine lv_iadd S.1 S.2.1 dX7_tick_47 ?_
  refine z_iast (k := 27) (i := 0) (n := 268) S hg hK hR hS hF (by decide) rfl dX7_tick_48 (fun H locs M30 hR hS hF => ?_)
  exact z_vret S hr hlk hR hS hF dX7_tick_49
theorem hX7_passes : yX7_passes.cls = RX7 ∧ yX7_passes.cls ≠ "java/lang/invoke/MethodHandle" ∧ yX7_passes.cls ≠ "java/lang/invoke/VarHandle" ∧ (parseMethodDescriptor yX7_passes.desc).map (fun d => d.parameters.length) = some 1 := by decide +kernel
theorem oX7_passes : Cond.instanceMethod yX7_passes ∈ zT ∧ Cond.selects RX7 yX7_passes yX7_passes ∈ zT ∧ Cond.initialized RX7 ∈ zT ∧ Cond.code yX7_passes cX7_passes 4 (some .int) ∈ zT := ⟨wv_X7_passes, we_X7_passes, wi_X7, wk_X7_passes⟩
set_option maxRecDepth 100000 in
set_option maxHeartbeats 4000000 in
theorem kX7_passes (l : Launch) {g : zGeo} {z : Nat} (hg : zAd g z) {M M' : zM} {v1 : Int32} {r : Int32} (hF : fX7_passes M v1 = some (r, M')) : Met l yX7_passes [.code yX7_passes cX7_passes 4 (some .int)] { frames := 5, cells := 0, slots := 0, locals := 119 } (zPc g M [.ref (g.1 26 0), .int v1]) (zQi g z r M') 0 0 (zS z) := by
  refine z_enter (cc := cX7_passes) (maxL := 4) (ret := (some .int)) (by decide) rfl (Nat.le_of_ble_eq_true rfl) ?_
  intro p e s m below meth c S hr hlk hK hR hS ls hl
  have S : CallFix p m c cX7_passes 4 s _ zT RX7 := S
  have hl : lv_has ls 4 [(0, .ref (g.1 26 0)), (1, .int v1)] := hl
  have L4 : ∀ (k : zM → Int32 → Int32 → Option (Int32 × zM)) (a1 : Int32), (∀ (M : zM) (a2 : Int32) (a3 : Int32) (H : Heap) (locs : List Loc), zR g M H → va_S (zS z) s.heap H locs → ∀ ls : Array Slot, lv_has ls 4 [(0, .ref (g.1 26 0)), (1, .int a1), (2, .int a2), (3, .int a3)] → k M a2 a3 = some (r, M') → W p l e { frames := 5, cells := 0, slots := 0, locals := 119 } s m ([.ref (g.1 26 0), .int v1] : List Value).toArray below meth c H locs 0 0 (MQ below (zQi g z r M') ([.ref (g.1 26 0), .int v1] : List Value).toArray s 0 0 (zS z)) (F0 m 26 ls [])) → ∀ (n : Nat) (M : zM) (a2 : Int32) (a3 : Int32) (H : Heap) (locs : List Loc), zR g M H → va_S (zS z) s.heap H locs → ∀ ls : Array Slot, lv_has ls 4 [(0, .ref (g.1 26 0)), (1, .int a1), (2, .int a2), (3, .int a3)] → fX7_passes_L4 k a1 n M a2 a3 = some (r, M') → W p l e { frames := 5, cells := 0, slots := 0, locals := 119 } s m ([.ref (g.1 26 0), .int v1] : List Value).toArray below meth c H locs 0 0 (MQ below (zQi g z r M') ([.ref (g.1 26 0), .int v1] : List Value).toArray s 0 0 (zS z)) (F0 m 4 ls []) := by
    intro k a1 hk n
    induction n with
    | zero =>
      intro M a2 a3 H locs hR hS ls hl hF
      cases hF
    | succ n ih =>
      intro M a2 a3 H locs hR hS ls hl hF
      unfold fX7_passes_L4 at hF
      refine lv_iload_n S.1 S.2.1 dX7_passes_4 rfl (lv_at hl 3 rfl) ?_
      refine lv_iload_n S.1 S.2.1 dX7_passes_5 rfl (lv_at hl 1 rfl) ?_
      refine lv_icmp_ge (tgt := 26) S.1 S.2.1 dX7_passes_6 (by decide) (fun hc => ?_) (fun hc => ?_)
      · replace hF := z_ct hF hc
        exact hk _ _ _ _ _ hR hS _ (lv_sub hl [0, 1, 2, 3] rfl) hF
      · replace hF := z_cf hF hc
        refine lv_aload_n S.1 S.2.1 dX7_passes_9 rfl (lv_at hl 0 rfl) ?_
        refine z_gov hS hF (fun _ _ ho => va_runV (C := RX7) (n := 0) (As := []) (rest := []) S (kX7_tick l hg ho) (cwV 0 S.2.2.2.2 (zgV wm_X7_108 oX7_tick) rfl rfl rfl hX7_tick ⟨Nat.le_of_ble_eq_true rfl, Nat.le_of_ble_eq_true rfl⟩) ⟨zPc_blind, z_recv hK hR (by decide) rfl rfl, z_pre hK hR⟩ rfl rfl hl.1 rfl (lv_room (Nat.le_of_ble_eq_true rfl)) dX7_passes_10 ⟨Nat.zero_le _, Nat.zero_le _⟩) (fun M21 H locs hR hS hF => ?_)
        refine lv_iload_n S.1 S.2.1 dX7_passes_13 rfl (lv_at hl 2 rfl) ?_
        refine lv_aload_n S.1 S.2.1 dX7_passes_14 rfl (lv_at hl 0 rfl) ?_
        refine z_get (k := 26) (i := 0) (f := 12) (v := .int (M21 26 0 12)) S hK hR (by decide) rfl rfl (by decide) wf_X7_89 rfl dX7_passes_15 ?_
        refine lv_ior S.1 S.2.1 dX7_passes_18 ?_
        refine z_nm hF (fun v22 hF => ?_)
        refine lv_istore_n (lv' := [(2, .int v22), (0, .ref (g.1 26 0)), (1, .int a1), (3, .int a3)]) S.1 S.2.1 dX7_passes_19 rfl hl (by decide) rfl (fun ls hl => ?_)
        obtain ⟨v23, ev23, hF⟩ := zL_out hF
        refine lv_iinc (v := v23) (lv' := [(3, .int v23), (2, .int v22), (0, .ref (g.1 26 0)), (1, .int a1)]) S.1 S.2.1 dX7_passes_20 hl (k := 3) rfl (by rw [← ev23]; rfl) (by decide) rfl (fun ls hl => ?_)
        refine lv_goto (tgt := 4) S.1 S.2.1 dX7_passes_23 (by decide) ?_
        exact ih _ _ _ _ _ hR hS _ (lv_sub hl [2, 3, 1, 0] rfl) hF
  unfold fX7_passes at hF
  refine lv_iconst (v := 0) S.1 S.2.1 dX7_passes_0 (by decide) ?_
  refine lv_istore_n (lv' := [(2, .int 0), (0, .ref (g.1 26 0)), (1, .int v1)]) S.1 S.2.1 dX7_passes_1 rfl hl (by decide) rfl (fun ls hl => ?_)
  refine lv_iconst (v := 0) S.1 S.2.1 dX7_passes_2 (by decide) ?_
  refine lv_istore_n (lv' := [(3, .int 0), (2, .int 0), (0, .ref (g.1 26 0)), (1, .int v1)]) S.1 S.2.1 dX7_passes_3 rfl hl (by decide) rfl (fun ls hl => ?_)
  refine L4 _ _ (fun M24 v25 v26 H locs hR hS ls hl hF => ?_) _ _ _ _ _ _ hR hS _ (lv_sub hl [2, 3, 1, 0] rfl) hF
  refine lv_iload_n S.1 S.2.1 dX7_passes_26 rfl (lv_at hl 2 rfl) ?_
  exact z_iret S hr hlk hR hS hF dX7_passes_27
theorem hX7_launch : yX7_launch.cls = RX7 ∧ yX7_launch.cls ≠ "java/lang/invoke/MethodHandle" ∧ yX7_launch.cls ≠ "java/lang/invoke/VarHandle" ∧ (parseMethodDescriptor yX7_launch.desc).map (fun d => d.parameters.length) = some 5 := by decide +kernel
theorem oX7_launch : Cond.instanceMethod yX7_launch ∈ zT ∧ Cond.selects RX7 yX7_launch yX7_launch ∈ zT ∧ Cond.initialized RX7 ∈ zT ∧ Cond.code yX7_launch cX7_launch 8 (some .int) ∈ zT := ⟨wv_X7_launch, we_X7_launch, wi_X7, wk_X7_launch⟩
set_option maxRecDepth 100000 in
set_option maxHeartbeats 4000000 in
theorem kX7_launch (l : Launch) {g : zGeo} {z : Nat} (hg : zAd g z) {M M' : zM} {v1 : Int32} {v2 : Int32} {v3 : Int32} {v4 : Int32} {v5 : Int32} {r : Int32} (hF : fX7_launch M v1 v2 v3 v4 v5 = some (r, M')) : Met l yX7_launch [.code yX7_launch cX7_launch 8 (some .int)] { frames := 2, cells := 0, slots := 0, locals := 45 } (zPc g M [.ref (g.1 26 0), .int v1, .int v2, .int v3, .int v4, .int v5]) (zQi g z r M') 0 0 (zS z) := by
  refine z_enter (cc := cX7_launch) (maxL := 8) (ret := (some .int)) (by decide) rfl (Nat.le_of_ble_eq_true rfl) ?_
  intro p e s m below meth c S hr hlk hK hR hS ls hl
  have S : CallFix p m c cX7_launch 8 s _ zT RX7 := S
  have hl : lv_has ls 8 [(0, .ref (g.1 26 0)), (1, .int v1), (2, .int v2), (3, .int v3), (4, .int v4), (5, .int v5)] := hl
  have L85 : ∀ (k : zM → Int32 → Option (Int32 × zM)) (a1 : Int32) (a2 : Int32) (a3 : Int32) (a4 : Int32) (a5 : Int32) (a6 : Int32), (∀ (M : zM) (a7 : Int32) (H : Heap) (locs : List Loc), zR g M H → va_S (zS z) s.heap H locs → ∀ ls : Array Slot, lv_has ls 8 [(0, .ref (g.1 26 0)), (1, .int a1), (2, .int a2), (3, .int a3), (4, .int a4), (5, .int a5), (6, .int a6), (7, .int a7)] → k M a7 = some (r, M') → W p l e { frames := 2, cells := 0, slots := 0, locals := 45 } s m ([.ref (g.1 26 0), .int v1, .int v2, .int v3, .int v4, .int v5] : List Value).toArray below meth c H locs 0 0 (MQ below (zQi g z r M') ([.ref (g.1 26 0), .int v1, .int v2, .int v3, .int v4, .int v5] : List Value).toArray s 0 0 (zS z)) (F0 m 107 ls [])) → ∀ (n : Nat) (M : zM) (a7 : Int32) (H : Heap) (locs : List Loc), zR g M H → va_S (zS z) s.heap H locs → ∀ ls : Array Slot, lv_has ls 8 [(0, .ref (g.1 26 0)), (1, .int a1), (2, .int a2), (3, .int a3), (4, .int a4), (5, .int a5), (6, .int a6), (7, .int a7)] → fX7_launch_L85 k a1 a2 a3 a4 a5 a6 n M a7 = some (r, M') → W p l e { frames := 2, cells := 0, slots := 0, locals := 45 } s m ([.ref (g.1 26 0), .int v1, .int v2, .int v3, .int v4, .int v5] : List Value).toArray below meth c H locs 0 0 (MQ below (zQi g z r M') ([.ref (g.1 26 0), .int v1, .int v2, .int v3, .int v4, .int v5] : List Value).toArray s 0 0 (zS z)) (F0 m 85 ls []) := by
    intro k a1 a2 a3 a4 a5 a6 hk n
    induction n with
    | zero =>
      intro M a7 H locs hR hS ls hl hF
      cases hF
    | succ n ih =>
      intro M a7 H locs hR hS ls hl hF
      unfold fX7_launch_L85 at hF
      refine lv_iload S.1 S.2.1 dX7_launch_85 (lv_at hl 7 rfl) ?_
      refine lv_bipush (v := 44) S.1 S.2.1 dX7_launch_87 (by decide) ?_
      refine lv_icmp_ge (tgt := 107) S.1 S.2.1 dX7_launch_89 (by decide) (fun hc => ?_) (fun hc => ?_)
      · replace hF := z_ct hF hc
        exact hk _ _ _ _ hR hS _ (lv_sub hl [0, 1, 2, 3, 4, 5, 6, 7] rfl) hF
      · replace hF := z_cf hF hc
        refine lv_aload_n S.1 S.2.1 dX7_launch_92 rfl (lv_at hl 0 rfl) ?_
        refine lv_iload S.1 S.2.1 dX7_launch_93 (lv_at hl 6 rfl) ?_
        refine lv_iload S.1 S.2.1 dX7_launch_95 (lv_at hl 7 rfl) ?_
        refine lv_iconst (v := 0) S.1 S.2.1 dX7_launch_97 (by decide) ?_
        refine z_gov hS hF (fun _ _ ho => va_runV (C := RX7) (n := 3) (As := [.int a6, .int a7, .int 0]) (rest := []) S (kX7_setPart l hg ho) (cwV 3 S.2.2.2.2 (zgV wm_X7_82 oX7_setPart) rfl rfl rfl hX7_setPart ⟨Nat.le_of_ble_eq_true rfl, Nat.le_of_ble_eq_true rfl⟩) ⟨zPc_blind, z_recv hK hR (by decide) rfl rfl, z_pre hK hR⟩ rfl rfl hl.1 rfl (lv_room (Nat.le_of_ble_eq_true rfl)) dX7_launch_98 ⟨Nat.zero_le _, Nat.zero_le _⟩) (fun M33 H locs hR hS hF => ?_)
        obtain ⟨v34, ev34, hF⟩ := zL_out hF
        refine lv_iinc (v := v34) (lv' := [(7, .int v34), (0, .ref (g.1 26 0)), (1, .int a1), (2, .int a2), (3, .int a3), (4, .int a4), (5, .int a5), (6, .int a6)]) S.1 S.2.1 dX7_launch_101 hl (k := 7) rfl (by rw [← ev34]; rfl) (by decide) rfl (fun ls hl => ?_)
        refine lv_goto (tgt := 85) S.1 S.2.1 dX7_launch_104 (by decide) ?_
        exact ih _ _ _ _ hR hS _ (lv_sub hl [1, 2, 3, 4, 5, 6, 7, 0] rfl) hF
  unfold fX7_launch at hF
  refine lv_iload_n S.1 S.2.1 dX7_launch_0 rfl (lv_at hl 1 rfl) ?_
  refine lv_iconst (v := 0) S.1 S.2.1 dX7_launch_1 (by decide) ?_
  refine lv_bipush (v := 63) S.1 S.2.1 dX7_launch_2 (by decide) ?_
  refine z_goi hS hF (fun _ _ ho => va_runS (n := 3) (As := [.int v1, .int 0, .int 63]) (rest := []) S (kX7_within l hg ho) (va_cwS 3 S.2.2.2.2 (zgS wm_X7_39 oX7_within) rfl rfl rfl hX7_within.2 ⟨Nat.le_of_ble_eq_true rfl, Nat.le_of_ble_eq_true rfl⟩) ⟨zPc_blind, z_pre hK hR⟩ rfl rfl hl.1 rfl (lv_room (Nat.le_of_ble_eq_true rfl)) dX7_launch_4 ⟨Nat.zero_le _, Nat.zero_le _⟩) (fun r22 M21 H locs hR hS hF => ?_)
  refine lv_if_eq (tgt := 53) S.1 S.2.1 dX7_launch_7 (by decide) (fun hc => ?_) (fun hc => ?_)
  · replace hF := z_ct hF hc
    refine lv_bipush (v := (-2)) S.1 S.2.1 dX7_launch_53 (by decide) ?_
    exact z_iret S hr hlk hR hS hF dX7_launch_55
  · replace hF := z_cf hF hc
    refine lv_iload_n S.1 S.2.1 dX7_launch_10 rfl (lv_at hl 2 rfl) ?_
    refine lv_iconst (v := 0) S.1 S.2.1 dX7_launch_11 (by decide) ?_
    refine lv_bipush (v := 63) S.1 S.2.1 dX7_launch_12 (by decide) ?_
    refine z_goi hS hF (fun _ _ ho => va_runS (n := 3) (As := [.int v2, .int 0, .int 63]) (rest := []) S (kX7_within l hg ho) (va_cwS 3 S.2.2.2.2 (zgS wm_X7_39 oX7_within) rfl rfl rfl hX7_within.2 ⟨Nat.le_of_ble_eq_true rfl, Nat.le_of_ble_eq_true rfl⟩) ⟨zPc_blind, z_pre hK hR⟩ rfl rfl hl.1 rfl (lv_room (Nat.le_of_ble_eq_true rfl)) dX7_launch_14 ⟨Nat.zero_le _, Nat.zero_le _⟩) (fun r24 M23 H locs hR hS hF => ?_)
    refine lv_if_eq (tgt := 53) S.1 S.2.1 dX7_launch_17 (by decide) (fun hc => ?_) (fun hc => ?_)
    · replace hF := z_ct hF hc
      refine lv_bipush (v := (-2)) S.1 S.2.1 dX7_launch_53 (by decide) ?_
      exact z_iret S hr hlk hR hS hF dX7_launch_55
    · replace hF := z_cf hF hc
      refine lv_iload_n S.1 S.2.1 dX7_launch_20 rfl (lv_at hl 3 rfl) ?_
      refine lv_iconst (v := 1) S.1 S.2.1 dX7_launch_21 (by decide) ?_
      refine lv_bipush (v := 47) S.1 S.2.1 dX7_launch_22 (by decide) ?_
      refine z_goi hS hF (fun _ _ ho => va_runS (n := 3) (As := [.int v3, .int 1, .int 47]) (rest := []) S (kX7_within l hg ho) (va_cwS 3 S.2.2.2.2 (zgS wm_X7_39 oX7_within) rfl rfl rfl hX7_within.2 ⟨Nat.le_of_ble_eq_true rfl, Nat.le_of_ble_eq_true rfl⟩) ⟨zPc_blind, z_pre hK hR⟩ rfl rfl hl.1 rfl (lv_room (Nat.le_of_ble_eq_true rfl)) dX7_launch_24 ⟨Nat.zero_le _, Nat.zero_le _⟩) (fun r26 M25 H locs hR hS hF => ?_)
      refine lv_if_eq (tgt := 53) S.1 S.2.1 dX7_launch_27 (by decide) (fun hc => ?_) (fun hc => ?_)
      · replace hF := z_ct hF hc
        refine lv_bipush (v := (-2)) S.1 S.2.1 dX7_launch_53 (by decide) ?_
        exact z_iret S hr hlk hR hS hF dX7_launch_55
      · replace hF := z_cf hF hc
        refine lv_iload S.1 S.2.1 dX7_launch_30 (lv_at hl 4 rfl) ?_
        refine lv_iconst (v := 0) S.1 S.2.1 dX7_launch_32 (by decide) ?_
        refine lv_iconst (v := 5) S.1 S.2.1 dX7_launch_33 (by decide) ?_
        refine z_goi hS hF (fun _ _ ho => va_runS (n := 3) (As := [.int v4, .int 0, .int 5]) (rest := []) S (kX7_within l hg ho) (va_cwS 3 S.2.2.2.2 (zgS wm_X7_39 oX7_within) rfl rfl rfl hX7_within.2 ⟨Nat.le_of_ble_eq_true rfl, Nat.le_of_ble_eq_true rfl⟩) ⟨zPc_blind, z_pre hK hR⟩ rfl rfl hl.1 rfl (lv_room (Nat.le_of_ble_eq_true rfl)) dX7_launch_34 ⟨Nat.zero_le _, Nat.zero_le _⟩) (fun r28 M27 H locs hR hS hF => ?_)
        refine lv_if_eq (tgt := 53) S.1 S.2.1 dX7_launch_37 (by decide) (fun hc => ?_) (fun hc => ?_)
        · replace hF := z_ct hF hc
          refine lv_bipush (v := (-2)) S.1 S.2.1 dX7_launch_53 (by decide) ?_
          exact z_iret S hr hlk hR hS hF dX7_launch_55
        · replace hF := z_cf hF hc
          refine lv_iload S.1 S.2.1 dX7_launch_40 (lv_at hl 5 rfl) ?_
          refine lv_bipush (v := 10) S.1 S.2.1 dX7_launch_42 (by decide) ?_
          refine lv_sipush (v := 200) S.1 S.2.1 dX7_launch_44 (by decide) ?_
          refine z_goi hS hF (fun _ _ ho => va_runS (n := 3) (As := [.int v5, .int 10, .int 200]) (rest := []) S (kX7_within l hg ho) (va_cwS 3 S.2.2.2.2 (zgS wm_X7_39 oX7_within) rfl rfl rfl hX7_within.2 ⟨Nat.le_of_ble_eq_true rfl, Nat.le_of_ble_eq_true rfl⟩) ⟨zPc_blind, z_pre hK hR⟩ rfl rfl hl.1 rfl (lv_room (Nat.le_of_ble_eq_true rfl)) dX7_launch_47 ⟨Nat.zero_le _, Nat.zero_le _⟩) (fun r30 M29 H locs hR hS hF => ?_)
          refine lv_if_ne (tgt := 56) S.1 S.2.1 dX7_launch_50 (by decide) (fun hc => ?_) (fun hc => ?_)
          · replace hF := z_cf hF hc
            refine lv_aload_n S.1 S.2.1 dX7_launch_56 rfl (lv_at hl 0 rfl) ?_
            refine z_get (k := 26) (i := 0) (f := 0) (v := .ref (g.1 27 0)) S hK hR (by decide) rfl rfl (by decide) wf_X7_7 rfl dX7_launch_57 ?_
            refine lv_iconst (v := 0) S.1 S.2.1 dX7_launch_60 (by decide) ?_
            refine z_iald (k := 27) (i := 0) (n := 268) S hK hR hF (by decide) rfl dX7_launch_61 (fun hF => ?_)
            refine lv_bipush (v := 6) S.1 S.2.1 dX7_launch_62 (by decide) ?_
            refine lv_icmp_ne (tgt := 70) S.1 S.2.1 dX7_launch_64 (by decide) (fun hc => ?_) (fun hc => ?_)
            · replace hF := z_cf hF hc
              refine lv_aload_n S.1 S.2.1 dX7_launch_70 rfl (lv_at hl 0 rfl) ?_
              refine z_gov hS hF (fun _ _ ho => va_runV (C := RX7) (n := 0) (As := []) (rest := []) S (kX7_record l hg ho) (cwV 0 S.2.2.2.2 (zgV wm_X7_111 oX7_record) rfl rfl rfl hX7_record ⟨Nat.le_of_ble_eq_true rfl, Nat.le_of_ble_eq_true rfl⟩) ⟨zPc_blind, z_recv hK hR (by decide) rfl rfl, z_pre hK hR⟩ rfl rfl hl.1 rfl (lv_room (Nat.le_of_ble_eq_true rfl)) dX7_launch_71 ⟨Nat.zero_le _, Nat.zero_le _⟩) (fun M31 H locs hR hS hF => ?_)
              refine lv_aload_n S.1 S.2.1 dX7_launch_74 rfl (lv_at hl 0 rfl) ?_
              refine z_get (k := 26) (i := 0) (f := 0) (v := .ref (g.1 27 0)) S hK hR (by decide) rfl rfl (by decide) wf_X7_7 rfl dX7_launch_75 ?_
              refine lv_iconst (v := 0) S.1 S.2.1 dX7_launch_78 (by decide) ?_
              refine z_iald (k := 27) (i := 0) (n := 268) S hK hR hF (by decide) rfl dX7_launch_79 (fun hF => ?_)
              refine z_nm hF (fun v32 hF => ?_)
              refine lv_istore (lv' := [(6, .int v32), (0, .ref (g.1 26 0)), (1, .int v1), (2, .int v2), (3, .int v3), (4, .int v4), (5, .int v5)]) S.1 S.2.1 dX7_launch_80 hl (by decide) rfl (fun ls hl => ?_)
              refine lv_iconst (v := 0) S.1 S.2.1 dX7_launch_82 (by decide) ?_
              refine lv_istore (lv' := [(7, .int 0), (6, .int v32), (0, .ref (g.1 26 0)), (1, .int v1), (2, .int v2), (3, .int v3), (4, .int v4), (5, .int v5)]) S.1 S.2.1 dX7_launch_83 hl (by decide) rfl (fun ls hl => ?_)
              refine L85 _ _ _ _ _ _ _ (fun M35 v36 H locs hR hS ls hl hF => ?_) _ _ _ _ _ hR hS _ (lv_sub hl [2, 3, 4, 5, 6, 7, 1, 0] rfl) hF
              refine lv_aload_n S.1 S.2.1 dX7_launch_107 rfl (lv_at hl 0 rfl) ?_
              refine lv_iload S.1 S.2.1 dX7_launch_108 (lv_at hl 6 rfl) ?_
              refine lv_iconst (v := 0) S.1 S.2.1 dX7_launch_110 (by decide) ?_
              refine lv_iload_n S.1 S.2.1 dX7_launch_111 rfl (lv_at hl 1 rfl) ?_
              refine z_gov hS hF (fun _ _ ho => va_runV (C := RX7) (n := 3) (As := [.int v32, .int 0, .int v1]) (rest := []) S (kX7_setPart l hg ho) (cwV 3 S.2.2.2.2 (zgV wm_X7_82 oX7_setPart) rfl rfl rfl hX7_setPart ⟨Nat.le_of_ble_eq_true rfl, Nat.le_of_ble_eq_true rfl⟩) ⟨zPc_blind, z_recv hK hR (by decide) rfl rfl, z_pre hK hR⟩ rfl rfl hl.1 rfl (lv_room (Nat.le_of_ble_eq_true rfl)) dX7_launch_112 ⟨Nat.zero_le _, Nat.zero_le _⟩) (fun M37 H locs hR hS hF => ?_)
              refine lv_aload_n S.1 S.2.1 dX7_launch_115 rfl (lv_at hl 0 rfl) ?_
              refine lv_iload S.1 S.2.1 dX7_launch_116 (lv_at hl 6 rfl) ?_
              refine lv_iconst (v := 1) S.1 S.2.1 dX7_launch_118 (by decide) ?_
              refine lv_iload_n S.1 S.2.1 dX7_launch_119 rfl (lv_at hl 2 rfl) ?_
              refine z_gov hS hF (fun _ _ ho => va_runV (C := RX7) (n := 3) (As := [.int v32, .int 1, .int v2]) (rest := []) S (kX7_setPart l hg ho) (cwV 3 S.2.2.2.2 (zgV wm_X7_82 oX7_setPart) rfl rfl rfl hX7_setPart ⟨Nat.le_of_ble_eq_true rfl, Nat.le_of_ble_eq_true rfl⟩) ⟨zPc_blind, z_recv hK hR (by decide) rfl rfl, z_pre hK hR⟩ rfl rfl hl.1 rfl (lv_room (Nat.le_of_ble_eq_true rfl)) dX7_launch_120 ⟨Nat.zero_le _, Nat.zero_le _⟩) (fun M38 H locs hR hS hF => ?_)
              refine lv_aload_n S.1 S.2.1 dX7_launch_123 rfl (lv_at hl 0 rfl) ?_
              refine lv_iload S.1 S.2.1 dX7_launch_124 (lv_at hl 6 rfl) ?_
              refine lv_iconst (v := 2) S.1 S.2.1 dX7_launch_126 (by decide) ?_
              refine lv_iload_n S.1 S.2.1 dX7_launch_127 rfl (lv_at hl 3 rfl) ?_
              refine z_gov hS hF (fun _ _ ho => va_runV (C := RX7) (n := 3) (As := [.int v32, .int 2, .int v3]) (rest := []) S (kX7_setPart l hg ho) (cwV 3 S.2.2.2.2 (zgV wm_X7_82 oX7_setPart) rfl rfl rfl hX7_setPart ⟨Nat.le_of_ble_eq_true rfl, Nat.le_of_ble_eq_true rfl⟩) ⟨zPc_blind, z_recv hK hR (by decide) rfl rfl, z_pre hK hR⟩ rfl rfl hl.1 rfl (lv_room (Nat.le_of_ble_eq_true rfl)) dX7_launch_128 ⟨Nat.zero_le _, Nat.zero_le _⟩) (fun M39 H locs hR hS hF => ?_)
              refine lv_aload_n S.1 S.2.1 dX7_launch_131 rfl (lv_at hl 0 rfl) ?_
              refine lv_iload S.1 S.2.1 dX7_launch_132 (lv_at hl 6 rfl) ?_
              refine lv_iconst (v := 5) S.1 S.2.1 dX7_launch_134 (by decide) ?_
              refine lv_iload S.1 S.2.1 dX7_launch_135 (lv_at hl 4 rfl) ?_
              refine z_gov hS hF (fun _ _ ho => va_runV (C := RX7) (n := 3) (As := [.int v32, .int 5, .int v4]) (rest := []) S (kX7_setPart l hg ho) (cwV 3 S.2.2.2.2 (zgV wm_X7_82 oX7_setPart) rfl rfl rfl hX7_setPart ⟨Nat.le_of_ble_eq_true rfl, Nat.le_of_ble_eq_true rfl⟩) ⟨zPc_blind, z_recv hK hR (by decide) rfl rfl, z_pre hK hR⟩ rfl rfl hl.1 rfl (lv_room (Nat.le_of_ble_eq_true rfl)) dX7_launch_137 ⟨Nat.zero_le _, Nat.zero_le _⟩) (fun M40 H locs hR hS hF => ?_)
              refine lv_aload_n S.1 S.2.1 dX7_launch_140 rfl (lv_at hl 0 rfl) ?_
              refine lv_iload S.1 S.2.1 dX7_launch_141 (lv_at hl 6 rfl) ?_
              refine lv_bipush (v := 6) S.1 S.2.1 dX7_launch_143 (by decide) ?_
              refine lv_iload S.1 S.2.1 dX7_launch_145 (lv_at hl 5 rfl) ?_
              refine z_gov hS hF (fun _ _ ho => va_runV (C := RX7) (n := 3) (As := [.int v32, .int 6, .int v5]) (rest := []) S (kX7_setPart l hg ho) (cwV 3 S.2.2.2.2 (zgV wm_X7_82 oX7_setPart) rfl rfl rfl hX7_setPart ⟨Nat.le_of_ble_eq_true rfl, Nat.le_of_ble_eq_true rfl⟩) ⟨zPc_blind, z_recv hK hR (by decide) rfl rfl, z_pre hK hR⟩ rfl rfl hl.1 rfl (lv_room (Nat.le_of_ble_eq_true rfl)) dX7_launch_147 ⟨Nat.zero_le _, Nat.zero_le _⟩) (fun M41 H locs hR hS hF => ?_)
              refine lv_aload_n S.1 S.2.1 dX7_launch_150 rfl (lv_at hl 0 rfl) ?_
              refine lv_iload S.1 S.2.1 dX7_launch_151 (lv_at hl 6 rfl) ?_
              refine lv_bipush (v := 9) S.1 S.2.1 dX7_launch_153 (by decide) ?_
              refine lv_iload_n S.1 S.2.1 dX7_launch_155 rfl (lv_at hl 1 rfl) ?_
              refine z_gov hS hF (fun _ _ ho => va_runV (C := RX7) (n := 3) (As := [.int v32, .int 9, .int v1]) (rest := []) S (kX7_setPart l hg ho) (cwV 3 S.2.2.2.2 (zgV wm_X7_82 oX7_setPart) rfl rfl rfl hX7_setPart ⟨Nat.le_of_ble_eq_true rfl, Nat.le_of_ble_eq_true rfl⟩) ⟨zPc_blind, z_recv hK hR (by decide) rfl rfl, z_pre hK hR⟩ rfl rfl hl.1 rfl (lv_room (Nat.le_of_ble_eq_true rfl)) dX7_launch_156 ⟨Nat.zero_le _, Nat.zero_le _⟩) (fun M42 H locs hR hS hF => ?_)
              refine lv_aload_n S.1 S.2.1 dX7_launch_159 rfl (lv_at hl 0 rfl) ?_
              refine lv_iload S.1 S.2.1 dX7_launch_160 (lv_at hl 6 rfl) ?_
              refine lv_bipush (v := 10) S.1 S.2.1 dX7_launch_162 (by decide) ?_
              refine lv_iload_n S.1 S.2.1 dX7_launch_164 rfl (lv_at hl 2 rfl) ?_
              refine z_gov hS hF (fun _ _ ho => va_runV (C := RX7) (n := 3) (As := [.int v32, .int 10, .int v2]) (rest := []) S (kX7_setPart l hg ho) (cwV 3 S.2.2.2.2 (zgV wm_X7_82 oX7_setPart) rfl rfl rfl hX7_setPart ⟨Nat.le_of_ble_eq_true rfl, Nat.le_of_ble_eq_true rfl⟩) ⟨zPc_blind, z_recv hK hR (by decide) rfl rfl, z_pre hK hR⟩ rfl rfl hl.1 rfl (lv_room (Nat.le_of_ble_eq_true rfl)) dX7_launch_165 ⟨Nat.zero_le _, Nat.zero_le _⟩) (fun M43 H locs hR hS hF => ?_)
              refine lv_aload_n S.1 S.2.1 dX7_launch_168 rfl (lv_at hl 0 rfl) ?_
              refine lv_iload S.1 S.2.1 dX7_launch_169 (lv_at hl 6 rfl) ?_
              refine lv_bipush (v := 11) S.1 S.2.1 dX7_launch_171 (by decide) ?_
              refine lv_iload_n S.1 S.2.1 dX7_launch_173 rfl (lv_at hl 3 rfl) ?_
              refine z_gov hS hF (fun _ _ ho => va_runV (C := RX7) (n := 3) (As := [.int v32, .int 11, .int v3]) (rest := []) S (kX7_setPart l hg ho) (cwV 3 S.2.2.2.2 (zgV wm_X7_82 oX7_setPart) rfl rfl rfl hX7_setPart ⟨Nat.le_of_ble_eq_true rfl, Nat.le_of_ble_eq_true rfl⟩) ⟨zPc_blind, z_recv hK hR (by decide) rfl rfl, z_pre hK hR⟩ rfl rfl hl.1 rfl (lv_room (Nat.le_of_ble_eq_true rfl)) dX7_launch_174 ⟨Nat.zero_le _, Nat.zero_le _⟩) (fun M44 H locs hR hS hF => ?_)
              refine lv_aload_n S.1 S.2.1 dX7_launch_177 rfl (lv_at hl 0 rfl) ?_
              refine z_get (k := 26) (i := 0) (f := 0) (v := .ref (g.1 27 0)) S hK hR (by decide) rfl rfl (by decide) wf_X7_7 rfl dX7_launch_178 ?_
              refine lv_iconst (v := 0) S.1 S.2.1 dX7_launch_181 (by decide) ?_
              refine lv_dup2_11 S.1 S.2.1 dX7_launch_182 rfl rfl ?_
              refine z_iald (k := 27) (i := 0) (n := 268) S hK hR hF (by decide) rfl dX7_launch_183 (fun hF => ?_)
              refine lv_iconst (v := 1) S.1 S.2.1 dX7_launch_184 (by decide) ?_
              refine lv_iadd S.1 S.2.1 dX7_launch_185 ?_
              refine z_iast (k := 27) (i := 0) (n := 268) S hg hK hR hS hF (by decide) rfl dX7_launch_186 (fun H locs M45 hR hS hF => ?_)
              refine lv_iload S.1 S.2.1 dX7_launch_187 (lv_at hl 6 rfl) ?_
              exact z_iret S hr hlk hR hS hF dX7_launch_189
            · replace hF := z_ct hF hc
              refine lv_bipush (v := (-4)) S.1 S.2.1 dX7_launch_67 (by decide) ?_
              exact z_iret S hr hlk hR hS hF dX7_launch_69
          · replace hF := z_ct hF hc
            refine lv_bipush (v := (-2)) S.1 S.2.1 dX7_launch_53 (by decide) ?_
            exact z_iret S hr hlk hR hS hF dX7_launch_55
theorem hX7_isStep : yX7_isStep.cls = RX7 ∧ yX7_isStep.cls ≠ "java/lang/invoke/MethodHandle" ∧ yX7_isStep.cls ≠ "java/lang/invoke/VarHandle" ∧ (parseMethodDescriptor yX7_isStep.desc).map (fun d => d.parameters.length) = some 1 := by decide +kernel
theorem oX7_isStep : Cond.static yX7_isStep ∈ zT ∧ Cond.initialized RX7 ∈ zT ∧ Cond.code yX7_isStep cX7_isStep 1 (some .boolean) ∈ zT := ⟨ws_X7_isStep, wi_X7, wk_X7_isStep⟩
set_option maxRecDepth 100000 in
set_option maxHeartbeats 4000000 in
theorem kX7_isStep (l : Launch) {g : zGeo} {z : Nat} (hg : zAd g z) {M M' : zM} {v0 : Int32} {r : Int32} (hF : fX7_isStep M v0 = some (r, M')) : Met l yX7_isStep [.code yX7_isStep cX7_isStep 1 (some .boolean)] { frames := 1, cells := 0, slots := 0, locals := 22 } (zPc g M [.int v0]) (zQi g z r M') 0 0 (zS z) := by
  refine z_enter (cc := cX7_isStep) (maxL := 1) (ret := (some .boolean)) (by decide) rfl (Nat.le_of_ble_eq_true rfl) ?_
  intro p e s m below meth c S hr hlk hK hR hS ls hl
  have S : CallFix p m c cX7_isStep 1 s _ zT RX7 := S
  have hl : lv_has ls 1 [(0, .int v0)] := hl
  unfold fX7_isStep at hF
  refine lv_iload_n S.1 S.2.1 dX7_isStep_0 rfl (lv_at hl 0 rfl) ?_
  refine lv_bipush (v := (-3)) S.1 S.2.1 dX7_isStep_1 (by decide) ?_
  refine lv_iconst (v := 3) S.1 S.2.1 dX7_isStep_3 (by decide) ?_
  refine z_goi hS hF (fun _ _ ho => va_runS (n := 3) (As := [.int v0, .int (-3), .int 3]) (rest := []) S (kX7_within l hg ho) (va_cwS 3 S.2.2.2.2 (zgS wm_X7_39 oX7_within) rfl rfl rfl hX7_within.2 ⟨Nat.le_of_ble_eq_true rfl, Nat.le_of_ble_eq_true rfl⟩) ⟨zPc_blind, z_pre hK hR⟩ rfl rfl hl.1 rfl (lv_room (Nat.le_of_ble_eq_true rfl)) dX7_isStep_4 ⟨Nat.zero_le _, Nat.zero_le _⟩) (fun r22 M21 H locs hR hS hF => ?_)
  exact z_zret S hr hlk hR hS hF dX7_isStep_7
theorem hX7_whyNotOrdered : yX7_whyNotOrdered.cls = RX7 ∧ yX7_whyNotOrdered.cls ≠ "java/lang/invoke/MethodHandle" ∧ yX7_whyNotOrdered.cls ≠ "java/lang/invoke/VarHandle" ∧ (parseMethodDescriptor yX7_whyNotOrdered.desc).map (fun d => d.parameters.length) = some 3 := by decide +kernel
theorem oX7_whyNotOrdered : Cond.instanceMethod yX7_whyNotOrdered ∈ zT ∧ Cond.selects RX7 yX7_whyNotOrdered yX7_whyNotOrdered ∈ zT ∧ Cond.initialized RX7 ∈ zT ∧ Cond.code yX7_whyNotOrdered cX7_whyNotOrdered 4 (some .int) ∈ zT := ⟨wv_X7_whyNotOrdered, we_X7_whyNotOrdered, wi_X7, wk_X7_whyNotOrdered⟩
set_option maxRecDepth 100000 in
set_option maxHeartbeats 4000000 in
theorem kX7_whyNotOrdered (l : Launch) {g : zGeo} {z : Nat} (hg : zAd g z) {M M' : zM} {v1 : Int32} {v2 : Int32} {v3 : Int32} {r : Int32} (hF : fX7_whyNotOrdered M v1 v2 v3 = some (r, M')) : Met l yX7_whyNotOrdered [.code yX7_whyNotOrdered cX7_whyNotOrdered 4 (some .int)] { frames := 2, cells := 0, slots := 0, locals := 43 } (zPc g M [.ref (g.1 26 0), .int v1, .int v2, .int v3]) (zQi g z r M') 0 0 (zS z) := by
  refine z_enter (cc := cX7_whyNotOrdered) (maxL := 4) (ret := (some .int)) (by decide) rfl (Nat.le_of_ble_eq_true rfl) ?_
  intro p e s m below meth c S hr hlk hK hR hS ls hl
  have S : CallFix p m c cX7_whyNotOrdered 4 s _ zT RX7 := S
  have hl : lv_has ls 4 [(0, .ref (g.1 26 0)), (1, .int v1), (2, .int v2), (3, .int v3)] := hl
  unfold fX7_whyNotOrdered at hF
  refine lv_aload_n S.1 S.2.1 dX7_whyNotOrdered_0 rfl (lv_at hl 0 rfl) ?_
  refine lv_iload_n S.1 S.2.1 dX7_whyNotOrdered_1 rfl (lv_at hl 1 rfl) ?_
  refine z_goi hS hF (fun _ _ ho => va_runV (C := RX7) (n := 1) (As := [.int v1]) (rest := []) S (kX7_isKite l hg ho) (cwV 1 S.2.2.2.2 (zgV wm_X7_114 oX7_isKite) rfl rfl rfl hX7_isKite ⟨Nat.le_of_ble_eq_true rfl, Nat.le_of_ble_eq_true rfl⟩) ⟨zPc_blind, z_recv hK hR (by decide) rfl rfl, z_pre hK hR⟩ rfl rfl hl.1 rfl (lv_room (Nat.le_of_ble_eq_true rfl)) dX7_whyNotOrdered_2 ⟨Nat.zero_le _, Nat.zero_le _⟩) (fun r22 M21 H locs hR hS hF => ?_)
  refine lv_if_ne (tgt := 10) S.1 S.2.1 dX7_whyNotOrdered_5 (by decide) (fun hc => ?_) (fun hc => ?_)
  · replace hF := z_cf hF hc
    refine lv_iload_n S.1 S.2.1 dX7_whyNotOrdered_10 rfl (lv_at hl 2 rfl) ?_
    refine z_goi hS hF (fun _ _ ho => va_runS (n := 1) (As := [.int v2]) (rest := []) S (kX7_isStep l hg ho) (va_cwS 1 S.2.2.2.2 (zgS wm_X7_117 oX7_isStep) rfl rfl rfl hX7_isStep.2 ⟨Nat.le_of_ble_eq_true rfl, Nat.le_of_ble_eq_true rfl⟩) ⟨zPc_blind, z_pre hK hR⟩ rfl rfl hl.1 rfl (lv_room (Nat.le_of_ble_eq_true rfl)) dX7_whyNotOrdered_11 ⟨Nat.zero_le _, Nat.zero_le _⟩) (fun r24 M23 H locs hR hS hF => ?_)
    refine lv_if_eq (tgt := 24) S.1 S.2.1 dX7_whyNotOrdered_14 (by decide) (fun hc => ?_) (fun hc => ?_)
    · replace hF := z_ct hF hc
      refine lv_bipush (v := (-2)) S.1 S.2.1 dX7_whyNotOrdered_24 (by decide) ?_
      refine lv_goto (tgt := 43) S.1 S.2.1 dX7_whyNotOrdered_26 (by decide) ?_
      exact z_iret S hr hlk hR hS hF dX7_whyNotOrdered_43
    · replace hF := z_cf hF hc
      refine lv_iload_n S.1 S.2.1 dX7_whyNotOrdered_17 rfl (lv_at hl 3 rfl) ?_
      refine z_goi hS hF (fun _ _ ho => va_runS (n := 1) (As := [.int v3]) (rest := []) S (kX7_isStep l hg ho) (va_cwS 1 S.2.2.2.2 (zgS wm_X7_117 oX7_isStep) rfl rfl rfl hX7_isStep.2 ⟨Nat.le_of_ble_eq_true rfl, Nat.le_of_ble_eq_true rfl⟩) ⟨zPc_blind, z_pre hK hR⟩ rfl rfl hl.1 rfl (lv_room (Nat.le_of_ble_eq_true rfl)) dX7_whyNotOrdered_18 ⟨Nat.zero_le _, Nat.zero_le _⟩) (fun r26 M25 H locs hR hS hF => ?_)
      refine lv_if_ne (tgt := 29) S.1 S.2.1 dX7_whyNotOrdered_21 (by decide) (fun hc => ?_) (fun hc => ?_)
      · replace hF := z_cf hF hc
        refine lv_aload_n S.1 S.2.1 dX7_whyNotOrdered_29 rfl (lv_at hl 0 rfl) ?_
        refine lv_iload_n S.1 S.2.1 dX7_whyNotOrdered_30 rfl (lv_at hl 1 rfl) ?_
        refine z_goi hS hF (fun _ _ ho => va_runV (C := RX7) (n := 1) (As := [.int v1]) (rest := []) S (kX7_flies l hg ho) (cwV 1 S.2.2.2.2 (zgV wm_X7_55 oX7_flies) rfl rfl rfl hX7_flies ⟨Nat.le_of_ble_eq_true rfl, Nat.le_of_ble_eq_true rfl⟩) ⟨zPc_blind, z_recv hK hR (by decide) rfl rfl, z_pre hK hR⟩ rfl rfl hl.1 rfl (lv_room (Nat.le_of_ble_eq_true rfl)) dX7_whyNotOrdered_31 ⟨Nat.zero_le _, Nat.zero_le _⟩) (fun r28 M27 H locs hR hS hF => ?_)
        refine lv_if_eq (tgt := 41) S.1 S.2.1 dX7_whyNotOrdered_34 (by decide) (fun hc => ?_) (fun hc => ?_)
        · replace hF := z_ct hF hc
          refine lv_bipush (v := (-5)) S.1 S.2.1 dX7_whyNotOrdered_41 (by decide) ?_
          exact z_iret S hr hlk hR hS hF dX7_whyNotOrdered_43
        · replace hF := z_cf hF hc
          refine lv_iconst (v := 0) S.1 S.2.1 dX7_whyNotOrdered_37 (by decide) ?_
          refine lv_goto (tgt := 43) S.1 S.2.1 dX7_whyNotOrdered_38 (by decide) ?_
          exact z_iret S hr hlk hR hS hF dX7_whyNotOrdered_43
      · replace hF := z_ct hF hc
        refine lv_bipush (v := (-2)) S.1 S.2.1 dX7_whyNotOrdered_24 (by decide) ?_
        refine lv_goto (tgt := 43) S.1 S.2.1 dX7_whyNotOrdered_26 (by decide) ?_
        exact z_iret S hr hlk hR hS hF dX7_whyNotOrdered_43
  · replace hF := z_ct hF hc
    refine lv_iconst (v := (-1)) S.1 S.2.1 dX7_whyNotOrdered_8 (by decide) ?_
    exact z_iret S hr hlk hR hS hF dX7_whyNotOrdered_9
theorem hX7_orders : yX7_orders.cls = RX7 ∧ yX7_orders.cls ≠ "java/lang/invoke/MethodHandle" ∧ yX7_orders.cls ≠ "java/lang/invoke/VarHandle" ∧ (parseMethodDescriptor yX7_orders.desc).map (fun d => d.parameters.length) = some 3 := by decide +kernel
theorem oX7_orders : Cond.instanceMethod yX7_orders ∈ zT ∧ Cond.selects RX7 yX7_orders yX7_orders ∈ zT ∧ Cond.initialized RX7 ∈ zT ∧ Cond.code yX7_orders cX7_orders 5 (some .int) ∈ zT := ⟨wv_X7_orders, we_X7_orders, wi_X7, wk_X7_orders⟩
set_option maxRecDepth 100000 in
set_option maxHeartbeats 4000000 in
theorem kX7_orders (l : Launch) {g : zGeo} {z : Nat} (hg : zAd g z) {M M' : zM} {v1 : Int32} {v2 : Int32} {v3 : Int32} {r : Int32} (hF : fX7_orders M v1 v2 v3 = some (r, M')) : Met l yX7_orders [.code yX7_orders cX7_orders 5 (some .int)] { frames := 1, cells := 0, slots := 0, locals := 23 } (zPc g M [.ref (g.1 26 0), .int v1, .int v2, .int v3]) (zQi g z r M') 0 0 (zS z) := by
  refine z_enter (cc := cX7_orders) (maxL := 5) (ret := (some .int)) (by decide) rfl (Nat.le_of_ble_eq_true rfl) ?_
  intro p e s m below meth c S hr hlk hK hR hS ls hl
  have S : CallFix p m c cX7_orders 5 s _ zT RX7 := S
  have hl : lv_has ls 5 [(0, .ref (g.1 26 0)), (1, .int v1), (2, .int v2), (3, .int v3)] := hl
  unfold fX7_orders at hF
  refine lv_bipush (v := 10) S.1 S.2.1 dX7_orders_0 (by decide) ?_
  refine lv_aload_n S.1 S.2.1 dX7_orders_2 rfl (lv_at hl 0 rfl) ?_
  refine lv_iload_n S.1 S.2.1 dX7_orders_3 rfl (lv_at hl 1 rfl) ?_
  refine lv_iconst (v := 3) S.1 S.2.1 dX7_orders_4 (by decide) ?_
  refine z_goi hS hF (fun _ _ ho => va_runV (C := RX7) (n := 2) (As := [.int v1, .int 3]) (rest := [.int 10]) S (kX7_part l hg ho) (cwV 2 S.2.2.2.2 (zgV wm_X7_43 oX7_part) rfl rfl rfl hX7_part ⟨Nat.le_of_ble_eq_true rfl, Nat.le_of_ble_eq_true rfl⟩) ⟨zPc_blind, z_recv hK hR (by decide) rfl rfl, z_pre hK hR⟩ rfl rfl hl.1 rfl (lv_room (Nat.le_of_ble_eq_true rfl)) dX7_orders_5 ⟨Nat.zero_le _, Nat.zero_le _⟩) (fun r22 M21 H locs hR hS hF => ?_)
  refine lv_iload_n S.1 S.2.1 dX7_orders_8 rfl (lv_at hl 2 rfl) ?_
  refine lv_isub S.1 S.2.1 dX7_orders_9 ?_
  refine z_goi hS hF (fun _ _ ho => va_runS (n := 1) (As := [.int (r22 - v2)]) (rest := [.int 10]) S (kX7_size l hg ho) (va_cwS 1 S.2.2.2.2 (zgS wm_X7_63 oX7_size) rfl rfl rfl hX7_size.2 ⟨Nat.le_of_ble_eq_true rfl, Nat.le_of_ble_eq_true rfl⟩) ⟨zPc_blind, z_pre hK hR⟩ rfl rfl hl.1 rfl (lv_room (Nat.le_of_ble_eq_true rfl)) dX7_orders_10 ⟨Nat.zero_le _, Nat.zero_le _⟩) (fun r24 M23 H locs hR hS hF => ?_)
  refine lv_imul S.1 S.2.1 dX7_orders_13 ?_
  refine lv_aload_n S.1 S.2.1 dX7_orders_14 rfl (lv_at hl 0 rfl) ?_
  refine lv_iload_n S.1 S.2.1 dX7_orders_15 rfl (lv_at hl 1 rfl) ?_
  refine lv_iconst (v := 4) S.1 S.2.1 dX7_orders_16 (by decide) ?_
  refine z_goi hS hF (fun _ _ ho => va_runV (C := RX7) (n := 2) (As := [.int v1, .int 4]) (rest := [.int (10 * r24)]) S (kX7_part l hg ho) (cwV 2 S.2.2.2.2 (zgV wm_X7_43 oX7_part) rfl rfl rfl hX7_part ⟨Nat.le_of_ble_eq_true rfl, Nat.le_of_ble_eq_true rfl⟩) ⟨zPc_blind, z_recv hK hR (by decide) rfl rfl, z_pre hK hR⟩ rfl rfl hl.1 rfl (lv_room (Nat.le_of_ble_eq_true rfl)) dX7_orders_17 ⟨Nat.zero_le _, Nat.zero_le _⟩) (fun r26 M25 H locs hR hS hF => ?_)
  refine lv_iload_n S.1 S.2.1 dX7_orders_20 rfl (lv_at hl 3 rfl) ?_
  refine lv_isub S.1 S.2.1 dX7_orders_21 ?_
  refine z_goi hS hF (fun _ _ ho => va_runS (n := 1) (As := [.int (r26 - v3)]) (rest := [.int (10 * r24)]) S (kX7_size l hg ho) (va_cwS 1 S.2.2.2.2 (zgS wm_X7_63 oX7_size) rfl rfl rfl hX7_size.2 ⟨Nat.le_of_ble_eq_true rfl, Nat.le_of_ble_eq_true rfl⟩) ⟨zPc_blind, z_pre hK hR⟩ rfl rfl hl.1 rfl (lv_room (Nat.le_of_ble_eq_true rfl)) dX7_orders_22 ⟨Nat.zero_le _, Nat.zero_le _⟩) (fun r28 M27 H locs hR hS hF => ?_)
  refine lv_iadd S.1 S.2.1 dX7_orders_25 ?_
  refine z_nm hF (fun v29 hF => ?_)
  refine lv_istore (lv' := [(4, .int v29), (0, .ref (g.1 26 0)), (1, .int v1), (2, .int v2), (3, .int v3)]) S.1 S.2.1 dX7_orders_26 hl (by decide) rfl (fun ls hl => ?_)
  refine lv_aload_n S.1 S.2.1 dX7_orders_28 rfl (lv_at hl 1 rfl) ?_
  refine lv_iload_n S.1 S.2.1 dX7_orders_29 rfl (lv_at hl 2 rfl) ?_
  refine lv_iconst (v := 3) S.1 S.2.1 dX7_orders_30 (by decide) ?_
  refine lv_iload_n S.1 S.2.1 dX7_orders_31 rfl (lv_at hl 3 rfl) ?_
  refine z_gov hS hF (fun _ _ ho => va_runV (C := RX7) (n := 3) (As := [.int v1, .int 3, .int v2]) (rest := []) S (kX7_setPart l hg ho) (cwV 3 S.2.2.2.2 (zgV wm_X7_82 oX7_setPart) rfl rfl rfl hX7_setPart ⟨Nat.le_of_ble_eq_true rfl, Nat.le_of_ble_eq_true rfl⟩) ⟨zPc_blind, z_recv hK hR (by decide) rfl rfl, z_pre hK hR⟩ rfl rfl hl.1 rfl (lv_room (Nat.le_of_ble_eq_true rfl)) dX7_orders_32 ⟨Nat.zero_le _, Nat.zero_le _⟩) (fun M30 H locs hR hS hF => ?_)
  refine lv_aload_n S.1 S.2.1 dX7_orders_35 rfl (lv_at hl 1 rfl) ?_
  refine lv_iload_n S.1 S.2.1 dX7_orders_36 rfl (lv_at hl 2 rfl) ?_
  refine lv_iconst (v := 4) S.1 S.2.1 dX7_orders_37 (by decide) ?_
  refine lv_iload_n S.1 S.2.1 dX7_orders_38 rfl (lv_at hl 4 rfl) ?_
  refine z_gov hS hF (fun _ _ ho => va_runV (C := RX7) (n := 3) (As := [.int v1, .int 4, .int v3]) (rest := []) S (kX7_setPart l hg ho) (cwV 3 S.2.2.2.2 (zgV wm_X7_82 oX7_setPart) rfl rfl rfl hX7_setPart ⟨Nat.le_of_ble_eq_true rfl, Nat.le_of_ble_eq_true rfl⟩) ⟨zPc_blind, z_recv hK hR (by decide) rfl rfl, z_pre hK hR⟩ rfl rfl hl.1 rfl (lv_room (Nat.le_of_ble_eq_true rfl)) dX7_orders_39 ⟨Nat.zero_le _, Nat.zero_le _⟩) (fun M31 H locs hR hS hF => ?_)
  refine lv_iload S.1 S.2.1 dX7_orders_42 (lv_at hl 0 rfl) ?_
  exact z_iret S hr hlk hR hS hF dX7_orders_44
theorem hX7_order : yX7_order.cls = RX7 ∧ yX7_order.cls ≠ "java/lang/invoke/MethodHandle" ∧ yX7_order.cls ≠ "java/lang/invoke/VarHandle" ∧ (parseMethodDescriptor yX7_order.desc).map (fun d => d.parameters.length) = some 3 := by decide +kernel
theorem oX7_order : Cond.instanceMethod yX7_order ∈ zT ∧ Cond.selects RX7 yX7_order yX7_order ∈ zT ∧ Cond.initialized RX7 ∈ zT ∧ Cond.code yX7_order cX7_order 5 (some .int) ∈ zT := ⟨wv_X7_order, we_X7_order, wi_X7, wk_X7_order⟩
set_option maxRecDepth 100000 in
set_option maxHeartbeats 4000000 in
theorem kX7_order (l : Launch) {g : zGeo} {z : Nat} (hg : zAd g z) {M M' : zM} {v1 : Int32} {v2 : Int32} {v3 : Int32} {r : Int32} (hF : fX7_order M v1 v2 v3 = some (r, M')) : Met l yX7_order [.code yX7_order cX7_order 5 (some .int)] { frames := 3, cells := 0, slots := 0, locals := 66 } (zPc g M [.ref (g.1 26 0), .int v1, .int v2, .int v3]) (zQi g z r M') 0 0 (zS z) := by
  refine z_enter (cc := cX7_order) (maxL := 5) (ret := (some .int)) (by decide) rfl (Nat.le_of_ble_eq_true rfl) ?_
  intro p e s m below meth c S hr hlk hK hR hS ls hl
  have S : CallFix p m c cX7_order 5 s _ zT RX7 := S
  have hl : lv_has ls 5 [(0, .ref (g.1 26 0)), (1, .int v1), (2, .int v2), (3, .int v3)] := hl
  unfold fX7_order at hF
  refine lv_aload_n S.1 S.2.1 dX7_order_0 rfl (lv_at hl 0 rfl) ?_
  refine lv_iload_n S.1 S.2.1 dX7_order_1 rfl (lv_at hl 1 rfl) ?_
  refine lv_iload_n S.1 S.2.1 dX7_order_2 rfl (lv_at hl 2 rfl) ?_
  refine lv_iload_n S.1 S.2.1 dX7_order_3 rfl (lv_at hl 3 rfl) ?_
  refine z_goi hS hF (fun _ _ ho => va_runV (C := RX7) (n := 3) (As := [.int v1, .int v2, .int v3]) (rest := []) S (kX7_whyNotOrdered l hg ho) (cwV 3 S.2.2.2.2 (zgV wm_X7_120 oX7_whyNotOrdered) rfl rfl rfl hX7_whyNotOrdered ⟨Nat.le_of_ble_eq_true rfl, Nat.le_of_ble_eq_true rfl⟩) ⟨zPc_blind, z_recv hK hR (by decide) rfl rfl, z_pre hK hR⟩ rfl rfl hl.1 rfl (lv_room (Nat.le_of_ble_eq_true rfl)) dX7_order_4 ⟨Nat.zero_le _, Nat.zero_le _⟩) (fun r22 M21 H locs hR hS hF => ?_)
  refine lv_istore (lv' := [(4, .int r22), (0, .ref (g.1 26 0)), (1, .int v1), (2, .int v2), (3, .int v3)]) S.1 S.2.1 dX7_order_7 hl (by decide) rfl (fun ls hl => ?_)
  refine lv_iload S.1 S.2.1 dX7_order_9 (lv_at hl 0 rfl) ?_
  refine lv_if_ge (tgt := 17) S.1 S.2.1 dX7_order_11 (by decide) (fun hc => ?_) (fun hc => ?_)
  · replace hF := z_ct hF hc
    refine lv_aload_n S.1 S.2.1 dX7_order_17 rfl (lv_at hl 1 rfl) ?_
    refine z_gov hS hF (fun _ _ ho => va_runV (C := RX7) (n := 0) (As := []) (rest := []) S (kX7_record l hg ho) (cwV 0 S.2.2.2.2 (zgV wm_X7_111 oX7_record) rfl rfl rfl hX7_record ⟨Nat.le_of_ble_eq_true rfl, Nat.le_of_ble_eq_true rfl⟩) ⟨zPc_blind, z_recv hK hR (by decide) rfl rfl, z_pre hK hR⟩ rfl rfl hl.1 rfl (lv_room (Nat.le_of_ble_eq_true rfl)) dX7_order_18 ⟨Nat.zero_le _, Nat.zero_le _⟩) (fun M23 H locs hR hS hF => ?_)
    refine lv_aload_n S.1 S.2.1 dX7_order_21 rfl (lv_at hl 1 rfl) ?_
    refine lv_iload_n S.1 S.2.1 dX7_order_22 rfl (lv_at hl 2 rfl) ?_
    refine lv_iload_n S.1 S.2.1 dX7_order_23 rfl (lv_at hl 3 rfl) ?_
    refine lv_iload_n S.1 S.2.1 dX7_order_24 rfl (lv_at hl 4 rfl) ?_
    refine z_goi hS hF (fun _ _ ho => va_runV (C := RX7) (n := 3) (As := [.int v1, .int v2, .int v3]) (rest := []) S (kX7_orders l hg ho) (cwV 3 S.2.2.2.2 (zgV wm_X7_123 oX7_orders) rfl rfl rfl hX7_orders ⟨Nat.le_of_ble_eq_true rfl, Nat.le_of_ble_eq_true rfl⟩) ⟨zPc_blind, z_recv hK hR (by decide) rfl rfl, z_pre hK hR⟩ rfl rfl hl.1 rfl (lv_room (Nat.le_of_ble_eq_true rfl)) dX7_order_25 ⟨Nat.zero_le _, Nat.zero_le _⟩) (fun r25 M24 H locs hR hS hF => ?_)
    exact z_iret S hr hlk hR hS hF dX7_order_28
  · replace hF := z_cf hF hc
    refine lv_iload S.1 S.2.1 dX7_order_14 (lv_at hl 0 rfl) ?_
    exact z_iret S hr hlk hR hS hF dX7_order_16
theorem hX7_step : yX7_step.cls = RX7 ∧ yX7_step.cls ≠ "java/lang/invoke/MethodHandle" ∧ yX7_step.cls ≠ "java/lang/invoke/VarHandle" ∧ (parseMethodDescriptor yX7_step.desc).map (fun d => d.parameters.length) = some 2 := by decide +kernel
theorem oX7_step : Cond.instanceMethod yX7_step ∈ zT ∧ Cond.selects RX7 yX7_step yX7_step ∈ zT ∧ Cond.initialized RX7 ∈ zT ∧ Cond.code yX7_step cX7_step 4 (some .int) ∈ zT := ⟨wv_X7_step, we_X7_step, wi_X7, wk_X7_step⟩
set_option maxRecDepth 100000 in
set_option maxHeartbeats 4000000 in
theorem kX7_step (l : Launch) {g : zGeo} {z : Nat} (hg : zAd g z) {M M' : zM} {v1 : Int32} {v2 : Int32} {r : Int32} (hF : fX7_step M v1 v2 = some (r, M')) : Met l yX7_step [.code yX7_step cX7_step 4 (some .int)] { frames := 2, cells := 0, slots := 0, locals := 45 } (zPc g M [.ref (g.1 26 0), .int v1, .int v2]) (zQi g z r M') 0 0 (zS z) := by
  refine z_enter (cc := cX7_step) (maxL := 4) (ret := (some .int)) (by decide) rfl (Nat.le_of_ble_eq_true rfl) ?_
  intro p e s m below meth c S hr hlk hK hR hS ls hl
  have S : CallFix p m c cX7_step 4 s _ zT RX7 := S
  have hl : lv_has ls 4 [(0, .ref (g.1 26 0)), (1, .int v1), (2, .int v2)] := hl
  unfold fX7_step at hF
  refine lv_aload_n S.1 S.2.1 dX7_step_0 rfl (lv_at hl 0 rfl) ?_
  refine lv_iload_n S.1 S.2.1 dX7_step_1 rfl (lv_at hl 1 rfl) ?_
  refine z_goi hS hF (fun _ _ ho => va_runV (C := RX7) (n := 1) (As := [.int v1]) (rest := []) S (kX7_isKite l hg ho) (cwV 1 S.2.2.2.2 (zgV wm_X7_114 oX7_isKite) rfl rfl rfl hX7_isKite ⟨Nat.le_of_ble_eq_true rfl, Nat.le_of_ble_eq_true rfl⟩) ⟨zPc_blind, z_recv hK hR (by decide) rfl rfl, z_pre hK hR⟩ rfl rfl hl.1 rfl (lv_room (Nat.le_of_ble_eq_true rfl)) dX7_step_2 ⟨Nat.zero_le _, Nat.zero_le _⟩) (fun r22 M21 H locs hR hS hF => ?_)
  refine lv_if_ne (tgt := 10) S.1 S.2.1 dX7_step_5 (by decide) (fun hc => ?_) (fun hc => ?_)
  · replace hF := z_cf hF hc
    refine lv_iload_n S.1 S.2.1 dX7_step_10 rfl (lv_at hl 2 rfl) ?_
    refine lv_iconst (v := 0) S.1 S.2.1 dX7_step_11 (by decide) ?_
    refine lv_bipush (v := 63) S.1 S.2.1 dX7_step_12 (by decide) ?_
    refine z_goi hS hF (fun _ _ ho => va_runS (n := 3) (As := [.int v2, .int 0, .int 63]) (rest := []) S (kX7_within l hg ho) (va_cwS 3 S.2.2.2.2 (zgS wm_X7_39 oX7_within) rfl rfl rfl hX7_within.2 ⟨Nat.le_of_ble_eq_true rfl, Nat.le_of_ble_eq_true rfl⟩) ⟨zPc_blind, z_pre hK hR⟩ rfl rfl hl.1 rfl (lv_room (Nat.le_of_ble_eq_true rfl)) dX7_step_14 ⟨Nat.zero_le _, Nat.zero_le _⟩) (fun r24 M23 H locs hR hS hF => ?_)
    refine lv_if_ne (tgt := 23) S.1 S.2.1 dX7_step_17 (by decide) (fun hc => ?_) (fun hc => ?_)
    · replace hF := z_cf hF hc
      refine lv_aload_n S.1 S.2.1 dX7_step_23 rfl (lv_at hl 0 rfl) ?_
      refine lv_iload_n S.1 S.2.1 dX7_step_24 rfl (lv_at hl 1 rfl) ?_
      refine z_goi hS hF (fun _ _ ho => va_runV (C := RX7) (n := 1) (As := [.int v1]) (rest := []) S (kX7_flies l hg ho) (cwV 1 S.2.2.2.2 (zgV wm_X7_55 oX7_flies) rfl rfl rfl hX7_flies ⟨Nat.le_of_ble_eq_true rfl, Nat.le_of_ble_eq_true rfl⟩) ⟨zPc_blind, z_recv hK hR (by decide) rfl rfl, z_pre hK hR⟩ rfl rfl hl.1 rfl (lv_room (Nat.le_of_ble_eq_true rfl)) dX7_step_25 ⟨Nat.zero_le _, Nat.zero_le _⟩) (fun r26 M25 H locs hR hS hF => ?_)
      refine lv_if_ne (tgt := 34) S.1 S.2.1 dX7_step_28 (by decide) (fun hc => ?_) (fun hc => ?_)
      · replace hF := z_cf hF hc
        refine lv_aload_n S.1 S.2.1 dX7_step_34 rfl (lv_at hl 0 rfl) ?_
        refine z_gov hS hF (fun _ _ ho => va_runV (C := RX7) (n := 0) (As := []) (rest := []) S (kX7_record l hg ho) (cwV 0 S.2.2.2.2 (zgV wm_X7_111 oX7_record) rfl rfl rfl hX7_record ⟨Nat.le_of_ble_eq_true rfl, Nat.le_of_ble_eq_true rfl⟩) ⟨zPc_blind, z_recv hK hR (by decide) rfl rfl, z_pre hK hR⟩ rfl rfl hl.1 rfl (lv_room (Nat.le_of_ble_eq_true rfl)) dX7_step_35 ⟨Nat.zero_le _, Nat.zero_le _⟩) (fun M27 H locs hR hS hF => ?_)
        refine lv_aload_n S.1 S.2.1 dX7_step_38 rfl (lv_at hl 0 rfl) ?_
        refine lv_iload_n S.1 S.2.1 dX7_step_39 rfl (lv_at hl 1 rfl) ?_
        refine lv_iconst (v := 0) S.1 S.2.1 dX7_step_40 (by decide) ?_
        refine z_goi hS hF (fun _ _ ho => va_runV (C := RX7) (n := 2) (As := [.int v1, .int 0]) (rest := []) S (kX7_part l hg ho) (cwV 2 S.2.2.2.2 (zgV wm_X7_43 oX7_part) rfl rfl rfl hX7_part ⟨Nat.le_of_ble_eq_true rfl, Nat.le_of_ble_eq_true rfl⟩) ⟨zPc_blind, z_recv hK hR (by decide) rfl rfl, z_pre hK hR⟩ rfl rfl hl.1 rfl (lv_room (Nat.le_of_ble_eq_true rfl)) dX7_step_41 ⟨Nat.zero_le _, Nat.zero_le _⟩) (fun r29 M28 H locs hR hS hF => ?_)
        refine lv_istore_n (lv' := [(3, .int r29), (0, .ref (g.1 26 0)), (1, .int v1), (2, .int v2)]) S.1 S.2.1 dX7_step_44 rfl hl (by decide) rfl (fun ls hl => ?_)
        refine lv_aload_n S.1 S.2.1 dX7_step_45 rfl (lv_at hl 1 rfl) ?_
        refine lv_iload_n S.1 S.2.1 dX7_step_46 rfl (lv_at hl 2 rfl) ?_
        refine lv_iconst (v := 0) S.1 S.2.1 dX7_step_47 (by decide) ?_
        refine lv_iload_n S.1 S.2.1 dX7_step_48 rfl (lv_at hl 3 rfl) ?_
        refine z_gov hS hF (fun _ _ ho => va_runV (C := RX7) (n := 3) (As := [.int v1, .int 0, .int v2]) (rest := []) S (kX7_setPart l hg ho) (cwV 3 S.2.2.2.2 (zgV wm_X7_82 oX7_setPart) rfl rfl rfl hX7_setPart ⟨Nat.le_of_ble_eq_true rfl, Nat.le_of_ble_eq_true rfl⟩) ⟨zPc_blind, z_recv hK hR (by decide) rfl rfl, z_pre hK hR⟩ rfl rfl hl.1 rfl (lv_room (Nat.le_of_ble_eq_true rfl)) dX7_step_49 ⟨Nat.zero_le _, Nat.zero_le _⟩) (fun M30 H locs hR hS hF => ?_)
        refine lv_iload_n S.1 S.2.1 dX7_step_52 rfl (lv_at hl 0 rfl) ?_
        exact z_iret S hr hlk hR hS hF dX7_step_53
      · replace hF := z_ct hF hc
        refine lv_bipush (v := (-5)) S.1 S.2.1 dX7_step_31 (by decide) ?_
        exact z_iret S hr hlk hR hS hF dX7_step_33
    · replace hF := z_ct hF hc
      refine lv_bipush (v := (-2)) S.1 S.2.1 dX7_step_20 (by decide) ?_
      exact z_iret S hr hlk hR hS hF dX7_step_22
  · replace hF := z_ct hF hc
    refine lv_iconst (v := (-1)) S.1 S.2.1 dX7_step_8 (by decide) ?_
    exact z_iret S hr hlk hR hS hF dX7_step_9
theorem hX7_land : yX7_land.cls = RX7 ∧ yX7_land.cls ≠ "java/lang/invoke/MethodHandle" ∧ yX7_land.cls ≠ "java/lang/invoke/VarHandle" ∧ (parseMethodDescriptor yX7_land.desc).map (fun d => d.parameters.length) = some 1 := by decide +kernel
theorem oX7_land : Cond.instanceMethod yX7_land ∈ zT ∧ Cond.selects RX7 yX7_land yX7_land ∈ zT ∧ Cond.initialized RX7 ∈ zT ∧ Cond.code yX7_land cX7_land 2 (some .int) ∈ zT := ⟨wv_X7_land, we_X7_land, wi_X7, wk_X7_land⟩
set_option maxRecDepth 100000 in
set_option maxHeartbeats 4000000 in
theorem kX7_land (l : Launch) {g : zGeo} {z : Nat} (hg : zAd g z) {M M' : zM} {v1 : Int32} {r : Int32} (hF : fX7_land M v1 = some (r, M')) : Met l yX7_land [.code yX7_land cX7_land 2 (some .int)] { frames := 2, cells := 0, slots := 0, locals := 45 } (zPc g M [.ref (g.1 26 0), .int v1]) (zQi g z r M') 0 0 (zS z) := by
  refine z_enter (cc := cX7_land) (maxL := 2) (ret := (some .int)) (by decide) rfl (Nat.le_of_ble_eq_true rfl) ?_
  intro p e s m below meth c S hr hlk hK hR hS ls hl
  have S : CallFix p m c cX7_land 2 s _ zT RX7 := S
  have hl : lv_has ls 2 [(0, .ref (g.1 26 0)), (1, .int v1)] := hl
  unfold fX7_land at hF
  refine lv_aload_n S.1 S.2.1 dX7_land_0 rfl (lv_at hl 0 rfl) ?_
  refine lv_iload_n S.1 S.2.1 dX7_land_1 rfl (lv_at hl 1 rfl) ?_
  refine z_goi hS hF (fun _ _ ho => va_runV (C := RX7) (n := 1) (As := [.int v1]) (rest := []) S (kX7_isKite l hg ho) (cwV 1 S.2.2.2.2 (zgV wm_X7_114 oX7_isKite) rfl rfl rfl hX7_isKite ⟨Nat.le_of_ble_eq_true rfl, Nat.le_of_ble_eq_true rfl⟩) ⟨zPc_blind, z_recv hK hR (by decide) rfl rfl, z_pre hK hR⟩ rfl rfl hl.1 rfl (lv_room (Nat.le_of_ble_eq_true rfl)) dX7_land_2 ⟨Nat.zero_le _, Nat.zero_le _⟩) (fun r22 M21 H locs hR hS hF => ?_)
  refine lv_if_ne (tgt := 10) S.1 S.2.1 dX7_land_5 (by decide) (fun hc => ?_) (fun hc => ?_)
  · replace hF := z_cf hF hc
    refine lv_aload_n S.1 S.2.1 dX7_land_10 rfl (lv_at hl 0 rfl) ?_
    refine lv_iload_n S.1 S.2.1 dX7_land_11 rfl (lv_at hl 1 rfl) ?_
    refine z_goi hS hF (fun _ _ ho => va_runV (C := RX7) (n := 1) (As := [.int v1]) (rest := []) S (kX7_flies l hg ho) (cwV 1 S.2.2.2.2 (zgV wm_X7_55 oX7_flies) rfl rfl rfl hX7_flies ⟨Nat.le_of_ble_eq_true rfl, Nat.le_of_ble_eq_true rfl⟩) ⟨zPc_blind, z_recv hK hR (by decide) rfl rfl, z_pre hK hR⟩ rfl rfl hl.1 rfl (lv_room (Nat.le_of_ble_eq_true rfl)) dX7_land_12 ⟨Nat.zero_le _, Nat.zero_le _⟩) (fun r24 M23 H locs hR hS hF => ?_)
    refine lv_if_ne (tgt := 21) S.1 S.2.1 dX7_land_15 (by decide) (fun hc => ?_) (fun hc => ?_)
    · replace hF := z_cf hF hc
      refine lv_aload_n S.1 S.2.1 dX7_land_21 rfl (lv_at hl 0 rfl) ?_
      refine z_gov hS hF (fun _ _ ho => va_runV (C := RX7) (n := 0) (As := []) (rest := []) S (kX7_record l hg ho) (cwV 0 S.2.2.2.2 (zgV wm_X7_111 oX7_record) rfl rfl rfl hX7_record ⟨Nat.le_of_ble_eq_true rfl, Nat.le_of_ble_eq_true rfl⟩) ⟨zPc_blind, z_recv hK hR (by decide) rfl rfl, z_pre hK hR⟩ rfl rfl hl.1 rfl (lv_room (Nat.le_of_ble_eq_true rfl)) dX7_land_22 ⟨Nat.zero_le _, Nat.zero_le _⟩) (fun M25 H locs hR hS hF => ?_)
      refine lv_aload_n S.1 S.2.1 dX7_land_25 rfl (lv_at hl 0 rfl) ?_
      refine lv_iload_n S.1 S.2.1 dX7_land_26 rfl (lv_at hl 1 rfl) ?_
      refine lv_bipush (v := 8) S.1 S.2.1 dX7_land_27 (by decide) ?_
      refine lv_iconst (v := 2) S.1 S.2.1 dX7_land_29 (by decide) ?_
      refine z_gov hS hF (fun _ _ ho => va_runV (C := RX7) (n := 3) (As := [.int v1, .int 8, .int 2]) (rest := []) S (kX7_setPart l hg ho) (cwV 3 S.2.2.2.2 (zgV wm_X7_82 oX7_setPart) rfl rfl rfl hX7_setPart ⟨Nat.le_of_ble_eq_true rfl, Nat.le_of_ble_eq_true rfl⟩) ⟨zPc_blind, z_recv hK hR (by decide) rfl rfl, z_pre hK hR⟩ rfl rfl hl.1 rfl (lv_room (Nat.le_of_ble_eq_true rfl)) dX7_land_30 ⟨Nat.zero_le _, Nat.zero_le _⟩) (fun M26 H locs hR hS hF => ?_)
      refine lv_aload_n S.1 S.2.1 dX7_land_33 rfl (lv_at hl 0 rfl) ?_
      refine lv_iload_n S.1 S.2.1 dX7_land_34 rfl (lv_at hl 1 rfl) ?_
      refine z_goi hS hF (fun _ _ ho => va_runV (C := RX7) (n := 1) (As := [.int v1]) (rest := []) S (kX7_greatestWear l hg ho) (cwV 1 S.2.2.2.2 (zgV wm_X7_47 oX7_greatestWear) rfl rfl rfl hX7_greatestWear ⟨Nat.le_of_ble_eq_true rfl, Nat.le_of_ble_eq_true rfl⟩) ⟨zPc_blind, z_recv hK hR (by decide) rfl rfl, z_pre hK hR⟩ rfl rfl hl.1 rfl (lv_room (Nat.le_of_ble_eq_true rfl)) dX7_land_35 ⟨Nat.zero_le _, Nat.zero_le _⟩) (fun r28 M27 H locs hR hS hF => ?_)
      exact z_iret S hr hlk hR hS hF dX7_land_38
    · replace hF := z_ct hF hc
      refine lv_bipush (v := (-5)) S.1 S.2.1 dX7_land_18 (by decide) ?_
      exact z_iret S hr hlk hR hS hF dX7_land_20
  · replace hF := z_ct hF hc
    refine lv_iconst (v := (-1)) S.1 S.2.1 dX7_land_8 (by decide) ?_
    exact z_iret S hr hlk hR hS hF dX7_land_9
theorem hX7_pass : yX7_pass.cls = RX7 ∧ yX7_pass.cls ≠ "java/lang/invoke/MethodHandle" ∧ yX7_pass.cls ≠ "java/lang/invoke/VarHandle" ∧ (parseMethodDescriptor yX7_pass.desc).map (fun d => d.parameters.length) = some 1 := by decide +kernel
theorem oX7_pass : Cond.instanceMethod yX7_pass ∈ zT ∧ Cond.selects RX7 yX7_pass yX7_pass ∈ zT ∧ Cond.initialized RX7 ∈ zT ∧ Cond.code yX7_pass cX7_pass 2 (some .int) ∈ zT := ⟨wv_X7_pass, we_X7_pass, wi_X7, wk_X7_pass⟩
set_option maxRecDepth 100000 in
set_option maxHeartbeats 4000000 in
theorem kX7_pass (l : Launch) {g : zGeo} {z : Nat} (hg : zAd g z) {M M' : zM} {v1 : Int32} {r : Int32} (hF : fX7_pass M v1 = some (r, M')) : Met l yX7_pass [.code yX7_pass cX7_pass 2 (some .int)] { frames := 6, cells := 0, slots := 0, locals := 142 } (zPc g M [.ref (g.1 26 0), .int v1]) (zQi g z r M') 0 0 (zS z) := by
  refine z_enter (cc := cX7_pass) (maxL := 2) (ret := (some .int)) (by decide) rfl (Nat.le_of_ble_eq_true rfl) ?_
  intro p e s m below meth c S hr hlk hK hR hS ls hl
  have S : CallFix p m c cX7_pass 2 s _ zT RX7 := S
  have hl : lv_has ls 2 [(0, .ref (g.1 26 0)), (1, .int v1)] := hl
  unfold fX7_pass at hF
  refine lv_iload_n S.1 S.2.1 dX7_pass_0 rfl (lv_at hl 1 rfl) ?_
  refine lv_iconst (v := 1) S.1 S.2.1 dX7_pass_1 (by decide) ?_
  refine lv_sipush (v := 200) S.1 S.2.1 dX7_pass_2 (by decide) ?_
  refine z_goi hS hF (fun _ _ ho => va_runS (n := 3) (As := [.int v1, .int 1, .int 200]) (rest := []) S (kX7_within l hg ho) (va_cwS 3 S.2.2.2.2 (zgS wm_X7_39 oX7_within) rfl rfl rfl hX7_within.2 ⟨Nat.le_of_ble_eq_true rfl, Nat.le_of_ble_eq_true rfl⟩) ⟨zPc_blind, z_pre hK hR⟩ rfl rfl hl.1 rfl (lv_room (Nat.le_of_ble_eq_true rfl)) dX7_pass_5 ⟨Nat.zero_le _, Nat.zero_le _⟩) (fun r22 M21 H locs hR hS hF => ?_)
  refine lv_if_ne (tgt := 14) S.1 S.2.1 dX7_pass_8 (by decide) (fun hc => ?_) (fun hc => ?_)
  · replace hF := z_cf hF hc
    refine lv_aload_n S.1 S.2.1 dX7_pass_14 rfl (lv_at hl 0 rfl) ?_
    refine z_gov hS hF (fun _ _ ho => va_runV (C := RX7) (n := 0) (As := []) (rest := []) S (kX7_record l hg ho) (cwV 0 S.2.2.2.2 (zgV wm_X7_111 oX7_record) rfl rfl rfl hX7_record ⟨Nat.le_of_ble_eq_true rfl, Nat.le_of_ble_eq_true rfl⟩) ⟨zPc_blind, z_recv hK hR (by decide) rfl rfl, z_pre hK hR⟩ rfl rfl hl.1 rfl (lv_room (Nat.le_of_ble_eq_true rfl)) dX7_pass_15 ⟨Nat.zero_le _, Nat.zero_le _⟩) (fun M23 H locs hR hS hF => ?_)
    refine lv_aload_n S.1 S.2.1 dX7_pass_18 rfl (lv_at hl 0 rfl) ?_
    refine lv_iload_n S.1 S.2.1 dX7_pass_19 rfl (lv_at hl 1 rfl) ?_
    refine z_goi hS hF (fun _ _ ho => va_runV (C := RX7) (n := 1) (As := [.int v1]) (rest := []) S (kX7_passes l hg ho) (cwV 1 S.2.2.2.2 (zgV wm_X7_126 oX7_passes) rfl rfl rfl hX7_passes ⟨Nat.le_of_ble_eq_true rfl, Nat.le_of_ble_eq_true rfl⟩) ⟨zPc_blind, z_recv hK hR (by decide) rfl rfl, z_pre hK hR⟩ rfl rfl hl.1 rfl (lv_room (Nat.le_of_ble_eq_true rfl)) dX7_pass_20 ⟨Nat.zero_le _, Nat.zero_le _⟩) (fun r25 M24 H locs hR hS hF => ?_)
    exact z_iret S hr hlk hR hS hF dX7_pass_23
  · replace hF := z_ct hF hc
    refine lv_bipush (v := (-2)) S.1 S.2.1 dX7_pass_11 (by decide) ?_
    exact z_iret S hr hlk hR hS hF dX7_pass_13
theorem hX7_round : yX7_round.cls = RX7 ∧ yX7_round.cls ≠ "java/lang/invoke/MethodHandle" ∧ yX7_round.cls ≠ "java/lang/invoke/VarHandle" ∧ (parseMethodDescriptor yX7_round.desc).map (fun d => d.parameters.length) = some 0 := by decide +kernel
theorem oX7_round : Cond.instanceMethod yX7_round ∈ zT ∧ Cond.selects RX7 yX7_round yX7_round ∈ zT ∧ Cond.initialized RX7 ∈ zT ∧ Cond.code yX7_round cX7_round 3 (some .int) ∈ zT := ⟨wv_X7_round, we_X7_round, wi_X7, wk_X7_round⟩
set_option maxRecDepth 100000 in
set_option maxHeartbeats 4000000 in
theorem kX7_round (l : Launch) {g : zGeo} {z : Nat} (hg : zAd g z) {M M' : zM}  {r : Int32} (hF : fX7_round M = some (r, M')) : Met l yX7_round [.code yX7_round cX7_round 3 (some .int)] { frames := 2, cells := 0, slots := 0, locals := 45 } (zPc g M [.ref (g.1 26 0)]) (zQi g z r M') 0 0 (zS z) := by
  refine z_enter (cc := cX7_round) (maxL := 3) (ret := (some .int)) (by decide) rfl (Nat.le_of_ble_eq_true rfl) ?_
  intro p e s m below meth c S hr hlk hK hR hS ls hl
  have S : CallFix p m c cX7_round 3 s _ zT RX7 := S
  have hl : lv_has ls 3 [(0, .ref (g.1 26 0))] := hl
  have L79 : ∀ (k : zM → Int32 → Option (Int32 × zM)) (a1 : Int32), (∀ (M : zM) (a2 : Int32) (H : Heap) (locs : List Loc), zR g M H → va_S (zS z) s.heap H locs → ∀ ls : Array Slot, lv_has ls 3 [(0, .ref (g.1 26 0)), (1, .int a1), (2, .int a2)] → k M a2 = some (r, M') → W p l e { frames := 2, cells := 0, slots := 0, locals := 45 } s m ([.ref (g.1 26 0)] : List Value).toArray below meth c H locs 0 0 (MQ below (zQi g z r M') ([.ref (g.1 26 0)] : List Value).toArray s 0 0 (zS z)) (F0 m 101 ls [])) → ∀ (n : Nat) (M : zM) (a2 : Int32) (H : Heap) (locs : List Loc), zR g M H → va_S (zS z) s.heap H locs → ∀ ls : Array Slot, lv_has ls 3 [(0, .ref (g.1 26 0)), (1, .int a1), (2, .int a2)] → fX7_round_L79 k a1 n M a2 = some (r, M') → W p l e { frames := 2, cells := 0, slots := 0, locals := 45 } s m ([.ref (g.1 26 0)] : List Value).toArray below meth c H locs 0 0 (MQ below (zQi g z r M') ([.ref (g.1 26 0)] : List Value).toArray s 0 0 (zS z)) (F0 m 79 ls []) := by
    intro k a1 hk n
    induction n with
    | zero =>
      intro M a2 H locs hR hS ls hl hF
      cases hF
    | succ n ih =>
      intro M a2 H locs hR hS ls hl hF
      unfold fX7_round_L79 at hF
      refine lv_iload_n S.1 S.2.1 dX7_round_79 rfl (lv_at hl 2 rfl) ?_
      refine lv_bipush (v := 32) S.1 S.2.1 dX7_round_80 (by decide) ?_
      refine lv_icmp_ge (tgt := 101) S.1 S.2.1 dX7_round_82 (by decide) (fun hc => ?_) (fun hc => ?_)
      · replace hF := z_ct hF hc
        exact hk _ _ _ _ hR hS _ (lv_sub hl [0, 1, 2] rfl) hF
      · replace hF := z_cf hF hc
        refine lv_aload_n S.1 S.2.1 dX7_round_85 rfl (lv_at hl 0 rfl) ?_
        refine lv_iload_n S.1 S.2.1 dX7_round_86 rfl (lv_at hl 1 rfl) ?_
        refine lv_bipush (v := 12) S.1 S.2.1 dX7_round_87 (by decide) ?_
        refine lv_iload_n S.1 S.2.1 dX7_round_89 rfl (lv_at hl 2 rfl) ?_
        refine lv_iadd S.1 S.2.1 dX7_round_90 ?_
        refine lv_iconst (v := 0) S.1 S.2.1 dX7_round_91 (by decide) ?_
        refine z_gov hS hF (fun _ _ ho => va_runV (C := RX7) (n := 3) (As := [.int a1, .int (12 + a2), .int 0]) (rest := []) S (kX7_setPart l hg ho) (cwV 3 S.2.2.2.2 (zgV wm_X7_82 oX7_setPart) rfl rfl rfl hX7_setPart ⟨Nat.le_of_ble_eq_true rfl, Nat.le_of_ble_eq_true rfl⟩) ⟨zPc_blind, z_recv hK hR (by decide) rfl rfl, z_pre hK hR⟩ rfl rfl hl.1 rfl (lv_room (Nat.le_of_ble_eq_true rfl)) dX7_round_92 ⟨Nat.zero_le _, Nat.zero_le _⟩) (fun M34 H locs hR hS hF => ?_)
        obtain ⟨v35, ev35, hF⟩ := zL_out hF
        refine lv_iinc (v := v35) (lv' := [(2, .int v35), (0, .ref (g.1 26 0)), (1, .int a1)]) S.1 S.2.1 dX7_round_95 hl (k := 2) rfl (by rw [← ev35]; rfl) (by decide) rfl (fun ls hl => ?_)
        refine lv_goto (tgt := 79) S.1 S.2.1 dX7_round_98 (by decide) ?_
        exact ih _ _ _ _ hR hS _ (lv_sub hl [1, 2, 0] rfl) hF
  have L6 : ∀ (k : zM → Int32 → Option (Int32 × zM)) , (∀ (M : zM) (a1 : Int32) (H : Heap) (locs : List Loc), zR g M H → va_S (zS z) s.heap H locs → ∀ ls : Array Slot, lv_has ls 3 [(0, .ref (g.1 26 0)), (1, .int a1)] → k M a1 = some (r, M') → W p l e { frames := 2, cells := 0, slots := 0, locals := 45 } s m ([.ref (g.1 26 0)] : List Value).toArray below meth c H locs 0 0 (MQ below (zQi g z r M') ([.ref (g.1 26 0)] : List Value).toArray s 0 0 (zS z)) (F0 m 107 ls [])) → ∀ (n : Nat) (M : zM) (a1 : Int32) (H : Heap) (locs : List Loc), zR g M H → va_S (zS z) s.heap H locs → ∀ ls : Array Slot, lv_has ls 3 [(0, .ref (g.1 26 0)), (1, .int a1)] → fX7_round_L6 k n M a1 = some (r, M') → W p l e { frames := 2, cells := 0, slots := 0, locals := 45 } s m ([.ref (g.1 26 0)] : List Value).toArray below meth c H locs 0 0 (MQ below (zQi g z r M') ([.ref (g.1 26 0)] : List Value).toArray s 0 0 (zS z)) (F0 m 6 ls []) := by
    intro k  hk n
    induction n with
    | zero =>
      intro M a1 H locs hR hS ls hl hF
      cases hF
    | succ n ih =>
      intro M a1 H locs hR hS ls hl hF
      unfold fX7_round_L6 at hF
      refine lv_iload_n S.1 S.2.1 dX7_round_6 rfl (lv_at hl 1 rfl) ?_
      refine lv_aload_n S.1 S.2.1 dX7_round_7 rfl (lv_at hl 0 rfl) ?_
      refine z_get (k := 26) (i := 0) (f := 0) (v := .ref (g.1 27 0)) S hK hR (by decide) rfl rfl (by decide) wf_X7_7 rfl dX7_round_8 ?_
      refine lv_iconst (v := 0) S.1 S.2.1 dX7_round_11 (by decide) ?_
      refine z_iald (k := 27) (i := 0) (n := 268) S hK hR hF (by decide) rfl dX7_round_12 (fun hF => ?_)
      refine lv_icmp_ge (tgt := 107) S.1 S.2.1 dX7_round_13 (by decide) (fun hc => ?_) (fun hc => ?_)
      · replace hF := z_ct hF hc
        exact hk _ _ _ _ hR hS _ (lv_sub hl [0, 1] rfl) hF
      · replace hF := z_cf hF hc
        refine lv_aload_n S.1 S.2.1 dX7_round_16 rfl (lv_at hl 0 rfl) ?_
        refine lv_iload_n S.1 S.2.1 dX7_round_17 rfl (lv_at hl 1 rfl) ?_
        refine lv_iconst (v := 0) S.1 S.2.1 dX7_round_18 (by decide) ?_
        refine lv_aload_n S.1 S.2.1 dX7_round_19 rfl (lv_at hl 0 rfl) ?_
        refine lv_iload_n S.1 S.2.1 dX7_round_20 rfl (lv_at hl 1 rfl) ?_
        refine lv_bipush (v := 9) S.1 S.2.1 dX7_round_21 (by decide) ?_
        refine z_goi hS hF (fun _ _ ho => va_runV (C := RX7) (n := 2) (As := [.int a1, .int 9]) (rest := [.int 0, .int a1, .ref (g.1 26 0)]) S (kX7_part l hg ho) (cwV 2 S.2.2.2.2 (zgV wm_X7_43 oX7_part) rfl rfl rfl hX7_part ⟨Nat.le_of_ble_eq_true rfl, Nat.le_of_ble_eq_true rfl⟩) ⟨zPc_blind, z_recv hK hR (by decide) rfl rfl, z_pre hK hR⟩ rfl rfl hl.1 rfl (lv_room (Nat.le_of_ble_eq_true rfl)) dX7_round_23 ⟨Nat.zero_le _, Nat.zero_le _⟩) (fun r23 M22 H locs hR hS hF => ?_)
        refine z_gov hS hF (fun _ _ ho => va_runV (C := RX7) (n := 3) (As := [.int a1, .int 0, .int r23]) (rest := []) S (kX7_setPart l hg ho) (cwV 3 S.2.2.2.2 (zgV wm_X7_82 oX7_setPart) rfl rfl rfl hX7_setPart ⟨Nat.le_of_ble_eq_true rfl, Nat.le_of_ble_eq_true rfl⟩) ⟨zPc_blind, z_recv hK hR (by decide) rfl rfl, z_pre hK hR⟩ rfl rfl hl.1 rfl (lv_room (Nat.le_of_ble_eq_true rfl)) dX7_round_26 ⟨Nat.zero_le _, Nat.zero_le _⟩) (fun M24 H locs hR hS hF => ?_)
        refine lv_aload_n S.1 S.2.1 dX7_round_29 rfl (lv_at hl 0 rfl) ?_
        refine lv_iload_n S.1 S.2.1 dX7_round_30 rfl (lv_at hl 1 rfl) ?_
        refine lv_iconst (v := 1) S.1 S.2.1 dX7_round_31 (by decide) ?_
        refine lv_aload_n S.1 S.2.1 dX7_round_32 rfl (lv_at hl 0 rfl) ?_
        refine lv_iload_n S.1 S.2.1 dX7_round_33 rfl (lv_at hl 1 rfl) ?_
        refine lv_bipush (v := 10) S.1 S.2.1 dX7_round_34 (by decide) ?_
        refine z_goi hS hF (fun _ _ ho => va_runV (C := RX7) (n := 2) (As := [.int a1, .int 10]) (rest := [.int 1, .int a1, .ref (g.1 26 0)]) S (kX7_part l hg ho) (cwV 2 S.2.2.2.2 (zgV wm_X7_43 oX7_part) rfl rfl rfl hX7_part ⟨Nat.le_of_ble_eq_true rfl, Nat.le_of_ble_eq_true rfl⟩) ⟨zPc_blind, z_recv hK hR (by decide) rfl rfl, z_pre hK hR⟩ rfl rfl hl.1 rfl (lv_room (Nat.le_of_ble_eq_true rfl)) dX7_round_36 ⟨Nat.zero_le _, Nat.zero_le _⟩) (fun r26 M25 H locs hR hS hF => ?_)
        refine z_gov hS hF (fun _ _ ho => va_runV (C := RX7) (n := 3) (As := [.int a1, .int 1, .int r26]) (rest := []) S (kX7_setPart l hg ho) (cwV 3 S.2.2.2.2 (zgV wm_X7_82 oX7_setPart) rfl rfl rfl hX7_setPart ⟨Nat.le_of_ble_eq_true rfl, Nat.le_of_ble_eq_true rfl⟩) ⟨zPc_blind, z_recv hK hR (by decide) rfl rfl, z_pre hK hR⟩ rfl rfl hl.1 rfl (lv_room (Nat.le_of_ble_eq_true rfl)) dX7_round_39 ⟨Nat.zero_le _, Nat.zero_le _⟩) (fun M27 H locs hR hS hF => ?_)
        refine lv_aload_n S.1 S.2.1 dX7_round_42 rfl (lv_at hl 0 rfl) ?_
        refine lv_iload_n S.1 S.2.1 dX7_round_43 rfl (lv_at hl 1 rfl) ?_
        refine lv_iconst (v := 2) S.1 S.2.1 dX7_round_44 (by decide) ?_
        refine lv_aload_n S.1 S.2.1 dX7_round_45 rfl (lv_at hl 0 rfl) ?_
        refine lv_iload_n S.1 S.2.1 dX7_round_46 rfl (lv_at hl 1 rfl) ?_
        refine lv_bipush (v := 11) S.1 S.2.1 dX7_round_47 (by decide) ?_
        refine z_goi hS hF (fun _ _ ho => va_runV (C := RX7) (n := 2) (As := [.int a1, .int 11]) (rest := [.int 2, .int a1, .ref (g.1 26 0)]) S (kX7_part l hg ho) (cwV 2 S.2.2.2.2 (zgV wm_X7_43 oX7_part) rfl rfl rfl hX7_part ⟨Nat.le_of_ble_eq_true rfl, Nat.le_of_ble_eq_true rfl⟩) ⟨zPc_blind, z_recv hK hR (by decide) rfl rfl, z_pre hK hR⟩ rfl rfl hl.1 rfl (lv_room (Nat.le_of_ble_eq_true rfl)) dX7_round_49 ⟨Nat.zero_le _, Nat.zero_le _⟩) (fun r29 M28 H locs hR hS hF => ?_)
        refine z_gov hS hF (fun _ _ ho => va_runV (C := RX7) (n := 3) (As := [.int a1, .int 2, .int r29]) (rest := []) S (kX7_setPart l hg ho) (cwV 3 S.2.2.2.2 (zgV wm_X7_82 oX7_setPart) rfl rfl rfl hX7_setPart ⟨Nat.le_of_ble_eq_true rfl, Nat.le_of_ble_eq_true rfl⟩) ⟨zPc_blind, z_recv hK hR (by decide) rfl rfl, z_pre hK hR⟩ rfl rfl hl.1 rfl (lv_room (Nat.le_of_ble_eq_true rfl)) dX7_round_52 ⟨Nat.zero_le _, Nat.zero_le _⟩) (fun M30 H locs hR hS hF => ?_)
        refine lv_aload_n S.1 S.2.1 dX7_round_55 rfl (lv_at hl 0 rfl) ?_
        refine lv_iload_n S.1 S.2.1 dX7_round_56 rfl (lv_at hl 1 rfl) ?_
        refine lv_iconst (v := 3) S.1 S.2.1 dX7_round_57 (by decide) ?_
        refine lv_iconst (v := 0) S.1 S.2.1 dX7_round_58 (by decide) ?_
        refine z_gov hS hF (fun _ _ ho => va_runV (C := RX7) (n := 3) (As := [.int a1, .int 3, .int 0]) (rest := []) S (kX7_setPart l hg ho) (cwV 3 S.2.2.2.2 (zgV wm_X7_82 oX7_setPart) rfl rfl rfl hX7_setPart ⟨Nat.le_of_ble_eq_true rfl, Nat.le_of_ble_eq_true rfl⟩) ⟨zPc_blind, z_recv hK hR (by decide) rfl rfl, z_pre hK hR⟩ rfl rfl hl.1 rfl (lv_room (Nat.le_of_ble_eq_true rfl)) dX7_round_59 ⟨Nat.zero_le _, Nat.zero_le _⟩) (fun M31 H locs hR hS hF => ?_)
        refine lv_aload_n S.1 S.2.1 dX7_round_62 rfl (lv_at hl 0 rfl) ?_
        refine lv_iload_n S.1 S.2.1 dX7_round_63 rfl (lv_at hl 1 rfl) ?_
        refine lv_iconst (v := 4) S.1 S.2.1 dX7_round_64 (by decide) ?_
        refine lv_iconst (v := 0) S.1 S.2.1 dX7_round_65 (by decide) ?_
        refine z_gov hS hF (fun _ _ ho => va_runV (C := RX7) (n := 3) (As := [.int a1, .int 4, .int 0]) (rest := []) S (kX7_setPart l hg ho) (cwV 3 S.2.2.2.2 (zgV wm_X7_82 oX7_setPart) rfl rfl rfl hX7_setPart ⟨Nat.le_of_ble_eq_true rfl, Nat.le_of_ble_eq_true rfl⟩) ⟨zPc_blind, z_recv hK hR (by decide) rfl rfl, z_pre hK hR⟩ rfl rfl hl.1 rfl (lv_room (Nat.le_of_ble_eq_true rfl)) dX7_round_66 ⟨Nat.zero_le _, Nat.zero_le _⟩) (fun M32 H locs hR hS hF => ?_)
        refine lv_aload_n S.1 S.2.1 dX7_round_69 rfl (lv_at hl 0 rfl) ?_
        refine lv_iload_n S.1 S.2.1 dX7_round_70 rfl (lv_at hl 1 rfl) ?_
        refine lv_bipush (v := 8) S.1 S.2.1 dX7_round_71 (by decide) ?_
        refine lv_iconst (v := 0) S.1 S.2.1 dX7_round_73 (by decide) ?_
        refine z_gov hS hF (fun _ _ ho => va_runV (C := RX7) (n := 3) (As := [.int a1, .int 8, .int 0]) (rest := []) S (kX7_setPart l hg ho) (cwV 3 S.2.2.2.2 (zgV wm_X7_82 oX7_setPart) rfl rfl rfl hX7_setPart ⟨Nat.le_of_ble_eq_true rfl, Nat.le_of_ble_eq_true rfl⟩) ⟨zPc_blind, z_recv hK hR (by decide) rfl rfl, z_pre hK hR⟩ rfl rfl hl.1 rfl (lv_room (Nat.le_of_ble_eq_true rfl)) dX7_round_74 ⟨Nat.zero_le _, Nat.zero_le _⟩) (fun M33 H locs hR hS hF => ?_)
        refine lv_iconst (v := 0) S.1 S.2.1 dX7_round_77 (by decide) ?_
        refine lv_istore_n (lv' := [(2, .int 0), (0, .ref (g.1 26 0)), (1, .int a1)]) S.1 S.2.1 dX7_round_78 rfl hl (by decide) rfl (fun ls hl => ?_)
        refine L79 _ _ (fun M36 v37 H locs hR hS ls hl hF => ?_) _ _ _ _ _ hR hS _ (lv_sub hl [1, 2, 0] rfl) hF
        obtain ⟨v38, ev38, hF⟩ := zL_out hF
        refine lv_iinc (v := v38) (lv' := [(1, .int v38), (0, .ref (g.1 26 0)), (2, .int v37)]) S.1 S.2.1 dX7_round_101 hl (k := 1) rfl (by rw [← ev38]; rfl) (by decide) rfl (fun ls hl => ?_)
        refine lv_goto (tgt := 6) S.1 S.2.1 dX7_round_104 (by decide) ?_
        exact ih _ _ _ _ hR hS _ (lv_sub hl [1, 0] rfl) hF
  unfold fX7_round at hF
  refine lv_aload_n S.1 S.2.1 dX7_round_0 rfl (lv_at hl 0 rfl) ?_
  refine z_gov hS hF (fun _ _ ho => va_runV (C := RX7) (n := 0) (As := []) (rest := []) S (kX7_record l hg ho) (cwV 0 S.2.2.2.2 (zgV wm_X7_111 oX7_record) rfl rfl rfl hX7_record ⟨Nat.le_of_ble_eq_true rfl, Nat.le_of_ble_eq_true rfl⟩) ⟨zPc_blind, z_recv hK hR (by decide) rfl rfl, z_pre hK hR⟩ rfl rfl hl.1 rfl (lv_room (Nat.le_of_ble_eq_true rfl)) dX7_round_1 ⟨Nat.zero_le _, Nat.zero_le _⟩) (fun M21 H locs hR hS hF => ?_)
  refine lv_iconst (v := 0) S.1 S.2.1 dX7_round_4 (by decide) ?_
  refine lv_istore_n (lv' := [(1, .int 0), (0, .ref (g.1 26 0))]) S.1 S.2.1 dX7_round_5 rfl hl (by decide) rfl (fun ls hl => ?_)
  refine L6 _ (fun M39 v40 H locs hR hS ls hl hF => ?_) _ _ _ _ _ hR hS _ (lv_sub hl [1, 0] rfl) hF
  refine lv_aload_n S.1 S.2.1 dX7_round_107 rfl (lv_at hl 0 rfl) ?_
  refine z_get (k := 26) (i := 0) (f := 0) (v := .ref (g.1 27 0)) S hK hR (by decide) rfl rfl (by decide) wf_X7_7 rfl dX7_round_108 ?_
  refine lv_iconst (v := 1) S.1 S.2.1 dX7_round_111 (by decide) ?_
  refine lv_dup2_11 S.1 S.2.1 dX7_round_112 rfl rfl ?_
  refine z_iald (k := 27) (i := 0) (n := 268) S hK hR hF (by decide) rfl dX7_round_113 (fun hF => ?_)
  refine lv_iconst (v := 1) S.1 S.2.1 dX7_round_114 (by decide) ?_
  refine lv_iadd S.1 S.2.1 dX7_round_115 ?_
  refine z_iast (k := 27) (i := 0) (n := 268) S hg hK hR hS hF (by decide) rfl dX7_round_116 (fun H locs M41 hR hS hF => ?_)
  refine lv_aload_n S.1 S.2.1 dX7_round_117 rfl (lv_at hl 0 rfl) ?_
  refine z_get (k := 26) (i := 0) (f := 0) (v := .ref (g.1 27 0)) S hK hR (by decide) rfl rfl (by decide) wf_X7_7 rfl dX7_round_118 ?_
  refine lv_iconst (v := 1) S.1 S.2.1 dX7_round_121 (by decide) ?_
  refine z_iald (k := 27) (i := 0) (n := 268) S hK hR hF (by decide) rfl dX7_round_122 (fun hF => ?_)
  exact z_iret S hr hlk hR hS hF dX7_round_123
theorem hX7_kite : yX7_kite.cls = RX7 ∧ yX7_kite.cls ≠ "java/lang/invoke/MethodHandle" ∧ yX7_kite.cls ≠ "java/lang/invoke/VarHandle" ∧ (parseMethodDescriptor yX7_kite.desc).map (fun d => d.parameters.length) = some 2 := by decide +kernel
theorem oX7_kite : Cond.instanceMethod yX7_kite ∈ zT ∧ Cond.selects RX7 yX7_kite yX7_kite ∈ zT ∧ Cond.initialized RX7 ∈ zT ∧ Cond.code yX7_kite cX7_kite 3 (some .int) ∈ zT := ⟨wv_X7_kite, we_X7_kite, wi_X7, wk_X7_kite⟩
set_option maxRecDepth 100000 in
set_option maxHeartbeats 4000000 in
theorem kX7_kite (l : Launch) {g : zGeo} {z : Nat} (hg : zAd g z) {M M' : zM} {v1 : Int32} {v2 : Int32} {r : Int32} (hF : fX7_kite M v1 v2 = some (r, M')) : Met l yX7_kite [.code yX7_kite cX7_kite 3 (some .int)] { frames := 4, cells := 0, slots := 0, locals := 99 } (zPc g M [.ref (g.1 26 0), .int v1, .int v2]) (zQi g z r M') 0 0 (zS z) := by
  refine z_enter (cc := cX7_kite) (maxL := 3) (ret := (some .int)) (by decide) rfl (Nat.le_of_ble_eq_true rfl) ?_
  intro p e s m below meth c S hr hlk hK hR hS ls hl
  have S : CallFix p m c cX7_kite 3 s _ zT RX7 := S
  have hl : lv_has ls 3 [(0, .ref (g.1 26 0)), (1, .int v1), (2, .int v2)] := hl
  unfold fX7_kite at hF
  refine lv_aload_n S.1 S.2.1 dX7_kite_0 rfl (lv_at hl 0 rfl) ?_
  refine lv_iload_n S.1 S.2.1 dX7_kite_1 rfl (lv_at hl 1 rfl) ?_
  refine z_goi hS hF (fun _ _ ho => va_runV (C := RX7) (n := 1) (As := [.int v1]) (rest := []) S (kX7_isKite l hg ho) (cwV 1 S.2.2.2.2 (zgV wm_X7_114 oX7_isKite) rfl rfl rfl hX7_isKite ⟨Nat.le_of_ble_eq_true rfl, Nat.le_of_ble_eq_true rfl⟩) ⟨zPc_blind, z_recv hK hR (by decide) rfl rfl, z_pre hK hR⟩ rfl rfl hl.1 rfl (lv_room (Nat.le_of_ble_eq_true rfl)) dX7_kite_2 ⟨Nat.zero_le _, Nat.zero_le _⟩) (fun r22 M21 H locs hR hS hF => ?_)
  refine lv_if_ne (tgt := 10) S.1 S.2.1 dX7_kite_5 (by decide) (fun hc => ?_) (fun hc => ?_)
  · replace hF := z_cf hF hc
    refine lv_iload_n S.1 S.2.1 dX7_kite_10 rfl (lv_at hl 2 rfl) ?_
    by_cases hc0 : v2 = 0
    · replace hF := z_ct hF hc0
      refine lv_tableIn (tgt := 72) S.1 S.2.1 dX7_kite_11 (by rw [hc0]; decide) (by rw [hc0]; decide) (by rw [hc0]; rfl) (by decide) ?_
      refine lv_aload_n S.1 S.2.1 dX7_kite_72 rfl (lv_at hl 0 rfl) ?_
      refine lv_iload_n S.1 S.2.1 dX7_kite_73 rfl (lv_at hl 1 rfl) ?_
      refine lv_iload_n S.1 S.2.1 dX7_kite_74 rfl (lv_at hl 2 rfl) ?_
      refine z_goi hS hF (fun _ _ ho => va_runV (C := RX7) (n := 2) (As := [.int v1, .int v2]) (rest := []) S (kX7_part l hg ho) (cwV 2 S.2.2.2.2 (zgV wm_X7_43 oX7_part) rfl rfl rfl hX7_part ⟨Nat.le_of_ble_eq_true rfl, Nat.le_of_ble_eq_true rfl⟩) ⟨zPc_blind, z_recv hK hR (by decide) rfl rfl, z_pre hK hR⟩ rfl rfl hl.1 rfl (lv_room (Nat.le_of_ble_eq_true rfl)) dX7_kite_75 ⟨Nat.zero_le _, Nat.zero_le _⟩) (fun r24 M23 H locs hR hS hF => ?_)
      exact z_iret S hr hlk hR hS hF dX7_kite_78
    replace hF := z_cf hF hc0
    by_cases hc1 : v2 = 1
    · replace hF := z_ct hF hc1
      refine lv_tableIn (tgt := 72) S.1 S.2.1 dX7_kite_11 (by rw [hc1]; decide) (by rw [hc1]; decide) (by rw [hc1]; rfl) (by decide) ?_
      refine lv_aload_n S.1 S.2.1 dX7_kite_72 rfl (lv_at hl 0 rfl) ?_
      refine lv_iload_n S.1 S.2.1 dX7_kite_73 rfl (lv_at hl 1 rfl) ?_
      refine lv_iload_n S.1 S.2.1 dX7_kite_74 rfl (lv_at hl 2 rfl) ?_
      refine z_goi hS hF (fun _ _ ho => va_runV (C := RX7) (n := 2) (As := [.int v1, .int v2]) (rest := []) S (kX7_part l hg ho) (cwV 2 S.2.2.2.2 (zgV wm_X7_43 oX7_part) rfl rfl rfl hX7_part ⟨Nat.le_of_ble_eq_true rfl, Nat.le_of_ble_eq_true rfl⟩) ⟨zPc_blind, z_recv hK hR (by decide) rfl rfl, z_pre hK hR⟩ rfl rfl hl.1 rfl (lv_room (Nat.le_of_ble_eq_true rfl)) dX7_kite_75 ⟨Nat.zero_le _, Nat.zero_le _⟩) (fun r26 M25 H locs hR hS hF => ?_)
      exact z_iret S hr hlk hR hS hF dX7_kite_78
    replace hF := z_cf hF hc1
    by_cases hc2 : v2 = 2
    · replace hF := z_ct hF hc2
      refine lv_tableIn (tgt := 72) S.1 S.2.1 dX7_kite_11 (by rw [hc2]; decide) (by rw [hc2]; decide) (by rw [hc2]; rfl) (by decide) ?_
      refine lv_aload_n S.1 S.2.1 dX7_kite_72 rfl (lv_at hl 0 rfl) ?_
      refine lv_iload_n S.1 S.2.1 dX7_kite_73 rfl (lv_at hl 1 rfl) ?_
      refine lv_iload_n S.1 S.2.1 dX7_kite_74 rfl (lv_at hl 2 rfl) ?_
      refine z_goi hS hF (fun _ _ ho => va_runV (C := RX7) (n := 2) (As := [.int v1, .int v2]) (rest := []) S (kX7_part l hg ho) (cwV 2 S.2.2.2.2 (zgV wm_X7_43 oX7_part) rfl rfl rfl hX7_part ⟨Nat.le_of_ble_eq_true rfl, Nat.le_of_ble_eq_true rfl⟩) ⟨zPc_blind, z_recv hK hR (by decide) rfl rfl, z_pre hK hR⟩ rfl rfl hl.1 rfl (lv_room (Nat.le_of_ble_eq_true rfl)) dX7_kite_75 ⟨Nat.zero_le _, Nat.zero_le _⟩) (fun r28 M27 H locs hR hS hF => ?_)
      exact z_iret S hr hlk hR hS hF dX7_kite_78
    replace hF := z_cf hF hc2
    by_cases hc3 : v2 = 3
    · replace hF := z_ct hF hc3
      refine lv_tableIn (tgt := 79) S.1 S.2.1 dX7_kite_11 (by rw [hc3]; decide) (by rw [hc3]; decide) (by rw [hc3]; rfl) (by decide) ?_
      refine lv_aload_n S.1 S.2.1 dX7_kite_79 rfl (lv_at hl 0 rfl) ?_
      refine lv_iload_n S.1 S.2.1 dX7_kite_80 rfl (lv_at hl 1 rfl) ?_
      refine lv_iload_n S.1 S.2.1 dX7_kite_81 rfl (lv_at hl 2 rfl) ?_
      refine z_goi hS hF (fun _ _ ho => va_runV (C := RX7) (n := 2) (As := [.int v1, .int v2]) (rest := []) S (kX7_part l hg ho) (cwV 2 S.2.2.2.2 (zgV wm_X7_43 oX7_part) rfl rfl rfl hX7_part ⟨Nat.le_of_ble_eq_true rfl, Nat.le_of_ble_eq_true rfl⟩) ⟨zPc_blind, z_recv hK hR (by decide) rfl rfl, z_pre hK hR⟩ rfl rfl hl.1 rfl (lv_room (Nat.le_of_ble_eq_true rfl)) dX7_kite_82 ⟨Nat.zero_le _, Nat.zero_le _⟩) (fun r30 M29 H locs hR hS hF => ?_)
      refine lv_bipush (v := 10) S.1 S.2.1 dX7_kite_85 (by decide) ?_
      refine lv_iadd S.1 S.2.1 dX7_kite_87 ?_
      exact z_iret S hr hlk hR hS hF dX7_kite_88
    replace hF := z_cf hF hc3
    by_cases hc4 : v2 = 4
    · replace hF := z_ct hF hc4
      refine lv_tableIn (tgt := 79) S.1 S.2.1 dX7_kite_11 (by rw [hc4]; decide) (by rw [hc4]; decide) (by rw [hc4]; rfl) (by decide) ?_
      refine lv_aload_n S.1 S.2.1 dX7_kite_79 rfl (lv_at hl 0 rfl) ?_
      refine lv_iload_n S.1 S.2.1 dX7_kite_80 rfl (lv_at hl 1 rfl) ?_
      refine lv_iload_n S.1 S.2.1 dX7_kite_81 rfl (lv_at hl 2 rfl) ?_
      refine z_goi hS hF (fun _ _ ho => va_runV (C := RX7) (n := 2) (As := [.int v1, .int v2]) (rest := []) S (kX7_part l hg ho) (cwV 2 S.2.2.2.2 (zgV wm_X7_43 oX7_part) rfl rfl rfl hX7_part ⟨Nat.le_of_ble_eq_true rfl, Nat.le_of_ble_eq_true rfl⟩) ⟨zPc_blind, z_recv hK hR (by decide) rfl rfl, z_pre hK hR⟩ rfl rfl hl.1 rfl (lv_room (Nat.le_of_ble_eq_true rfl)) dX7_kite_82 ⟨Nat.zero_le _, Nat.zero_le _⟩) (fun r32 M31 H locs hR hS hF => ?_)
      refine lv_bipush (v := 10) S.1 S.2.1 dX7_kite_85 (by decide) ?_
      refine lv_iadd S.1 S.2.1 dX7_kite_87 ?_
      exact z_iret S hr hlk hR hS hF dX7_kite_88
    replace hF := z_cf hF hc4
    by_cases hc5 : v2 = 5
    · replace hF := z_ct hF hc5
      refine lv_tableIn (tgt := 72) S.1 S.2.1 dX7_kite_11 (by rw [hc5]; decide) (by rw [hc5]; decide) (by rw [hc5]; rfl) (by decide) ?_
      refine lv_aload_n S.1 S.2.1 dX7_kite_72 rfl (lv_at hl 0 rfl) ?_
      refine lv_iload_n S.1 S.2.1 dX7_kite_73 rfl (lv_at hl 1 rfl) ?_
      refine lv_iload_n S.1 S.2.1 dX7_kite_74 rfl (lv_at hl 2 rfl) ?_
      refine z_goi hS hF (fun _ _ ho => va_runV (C := RX7) (n := 2) (As := [.int v1, .int v2]) (rest := []) S (kX7_part l hg ho) (cwV 2 S.2.2.2.2 (zgV wm_X7_43 oX7_part) rfl rfl rfl hX7_part ⟨Nat.le_of_ble_eq_true rfl, Nat.le_of_ble_eq_true rfl⟩) ⟨zPc_blind, z_recv hK hR (by decide) rfl rfl, z_pre hK hR⟩ rfl rfl hl.1 rfl (lv_room (Nat.le_of_ble_eq_true rfl)) dX7_kite_75 ⟨Nat.zero_le _, Nat.zero_le _⟩) (fun r34 M33 H locs hR hS hF => ?_)
      exact z_iret S hr hlk hR hS hF dX7_kite_78
    replace hF := z_cf hF hc5
    by_cases hc6 : v2 = 6
    · replace hF := z_ct hF hc6
      refine lv_tableIn (tgt := 72) S.1 S.2.1 dX7_kite_11 (by rw [hc6]; decide) (by rw [hc6]; decide) (by rw [hc6]; rfl) (by decide) ?_
      refine lv_aload_n S.1 S.2.1 dX7_kite_72 rfl (lv_at hl 0 rfl) ?_
      refine lv_iload_n S.1 S.2.1 dX7_kite_73 rfl (lv_at hl 1 rfl) ?_
      refine lv_iload_n S.1 S.2.1 dX7_kite_74 rfl (lv_at hl 2 rfl) ?_
      refine z_goi hS hF (fun _ _ ho => va_runV (C := RX7) (n := 2) (As := [.int v1, .int v2]) (rest := []) S (kX7_part l hg ho) (cwV 2 S.2.2.2.2 (zgV wm_X7_43 oX7_part) rfl rfl rfl hX7_part ⟨Nat.le_of_ble_eq_true rfl, Nat.le_of_ble_eq_true rfl⟩) ⟨zPc_blind, z_recv hK hR (by decide) rfl rfl, z_pre hK hR⟩ rfl rfl hl.1 rfl (lv_room (Nat.le_of_ble_eq_true rfl)) dX7_kite_75 ⟨Nat.zero_le _, Nat.zero_le _⟩) (fun r36 M35 H locs hR hS hF => ?_)
      exact z_iret S hr hlk hR hS hF dX7_kite_78
    replace hF := z_cf hF hc6
    by_cases hc7 : v2 = 7
    · replace hF := z_ct hF hc7
      refine lv_tableIn (tgt := 72) S.1 S.2.1 dX7_kite_11 (by rw [hc7]; decide) (by rw [hc7]; decide) (by rw [hc7]; rfl) (by decide) ?_
      refine lv_aload_n S.1 S.2.1 dX7_kite_72 rfl (lv_at hl 0 rfl) ?_
      refine lv_iload_n S.1 S.2.1 dX7_kite_73 rfl (lv_at hl 1 rfl) ?_
      refine lv_iload_n S.1 S.2.1 dX7_kite_74 rfl (lv_at hl 2 rfl) ?_
      refine z_goi hS hF (fun _ _ ho => va_runV (C := RX7) (n := 2) (As := [.int v1, .int v2]) (rest := []) S (kX7_part l hg ho) (cwV 2 S.2.2.2.2 (zgV wm_X7_43 oX7_part) rfl rfl rfl hX7_part ⟨Nat.le_of_ble_eq_true rfl, Nat.le_of_ble_eq_true rfl⟩) ⟨zPc_blind, z_recv hK hR (by decide) rfl rfl, z_pre hK hR⟩ rfl rfl hl.1 rfl (lv_room (Nat.le_of_ble_eq_true rfl)) dX7_kite_75 ⟨Nat.zero_le _, Nat.zero_le _⟩) (fun r38 M37 H locs hR hS hF => ?_)
      exact z_iret S hr hlk hR hS hF dX7_kite_78
    replace hF := z_cf hF hc7
    by_cases hc8 : v2 = 8
    · replace hF := z_ct hF hc8
      refine lv_tableIn (tgt := 72) S.1 S.2.1 dX7_kite_11 (by rw [hc8]; decide) (by rw [hc8]; decide) (by rw [hc8]; rfl) (by decide) ?_
      refine lv_aload_n S.1 S.2.1 dX7_kite_72 rfl (lv_at hl 0 rfl) ?_
      refine lv_iload_n S.1 S.2.1 dX7_kite_73 rfl (lv_at hl 1 rfl) ?_
      refine lv_iload_n S.1 S.2.1 dX7_kite_74 rfl (lv_at hl 2 rfl) ?_
      refine z_goi hS hF (fun _ _ ho => va_runV (C := RX7) (n := 2) (As := [.int v1, .int v2]) (rest := []) S (kX7_part l hg ho) (cwV 2 S.2.2.2.2 (zgV wm_X7_43 oX7_part) rfl rfl rfl hX7_part ⟨Nat.le_of_ble_eq_true rfl, Nat.le_of_ble_eq_true rfl⟩) ⟨zPc_blind, z_recv hK hR (by decide) rfl rfl, z_pre hK hR⟩ rfl rfl hl.1 rfl (lv_room (Nat.le_of_ble_eq_true rfl)) dX7_kite_75 ⟨Nat.zero_le _, Nat.zero_le _⟩) (fun r40 M39 H locs hR hS hF => ?_)
      exact z_iret S hr hlk hR hS hF dX7_kite_78
    replace hF := z_cf hF hc8
    by_cases hc9 : v2 = 9
    · replace hF := z_ct hF hc9
      refine lv_tableIn (tgt := 89) S.1 S.2.1 dX7_kite_11 (by rw [hc9]; decide) (by rw [hc9]; decide) (by rw [hc9]; rfl) (by decide) ?_
      refine lv_aload_n S.1 S.2.1 dX7_kite_89 rfl (lv_at hl 0 rfl) ?_
      refine lv_iload_n S.1 S.2.1 dX7_kite_90 rfl (lv_at hl 1 rfl) ?_
      refine z_goi hS hF (fun _ _ ho => va_runV (C := RX7) (n := 1) (As := [.int v1]) (rest := []) S (kX7_flies l hg ho) (cwV 1 S.2.2.2.2 (zgV wm_X7_55 oX7_flies) rfl rfl rfl hX7_flies ⟨Nat.le_of_ble_eq_true rfl, Nat.le_of_ble_eq_true rfl⟩) ⟨zPc_blind, z_recv hK hR (by decide) rfl rfl, z_pre hK hR⟩ rfl rfl hl.1 rfl (lv_room (Nat.le_of_ble_eq_true rfl)) dX7_kite_91 ⟨Nat.zero_le _, Nat.zero_le _⟩) (fun r42 M41 H locs hR hS hF => ?_)
      refine lv_if_eq (tgt := 105) S.1 S.2.1 dX7_kite_94 (by decide) (fun hc => ?_) (fun hc => ?_)
      · replace hF := z_ct hF hc
        refine lv_iconst (v := 0) S.1 S.2.1 dX7_kite_105 (by decide) ?_
        exact z_iret S hr hlk hR hS hF dX7_kite_106
      · replace hF := z_cf hF hc
        refine lv_aload_n S.1 S.2.1 dX7_kite_97 rfl (lv_at hl 0 rfl) ?_
        refine lv_iload_n S.1 S.2.1 dX7_kite_98 rfl (lv_at hl 1 rfl) ?_
        refine z_goi hS hF (fun _ _ ho => va_runV (C := RX7) (n := 1) (As := [.int v1]) (rest := []) S (kX7_greatestWear l hg ho) (cwV 1 S.2.2.2.2 (zgV wm_X7_47 oX7_greatestWear) rfl rfl rfl hX7_greatestWear ⟨Nat.le_of_ble_eq_true rfl, Nat.le_of_ble_eq_true rfl⟩) ⟨zPc_blind, z_recv hK hR (by decide) rfl rfl, z_pre hK hR⟩ rfl rfl hl.1 rfl (lv_room (Nat.le_of_ble_eq_true rfl)) dX7_kite_99 ⟨Nat.zero_le _, Nat.zero_le _⟩) (fun r44 M43 H locs hR hS hF => ?_)
        refine lv_goto (tgt := 106) S.1 S.2.1 dX7_kite_102 (by decide) ?_
        exact z_iret S hr hlk hR hS hF dX7_kite_106
    replace hF := z_cf hF hc9
    by_cases hc10 : v2 = 10
    · replace hF := z_ct hF hc10
      refine lv_tableIn (tgt := 107) S.1 S.2.1 dX7_kite_11 (by rw [hc10]; decide) (by rw [hc10]; decide) (by rw [hc10]; rfl) (by decide) ?_
      refine lv_aload_n S.1 S.2.1 dX7_kite_107 rfl (lv_at hl 0 rfl) ?_
      refine lv_iload_n S.1 S.2.1 dX7_kite_108 rfl (lv_at hl 1 rfl) ?_
      refine z_goi hS hF (fun _ _ ho => va_runV (C := RX7) (n := 1) (As := [.int v1]) (rest := []) S (kX7_flies l hg ho) (cwV 1 S.2.2.2.2 (zgV wm_X7_55 oX7_flies) rfl rfl rfl hX7_flies ⟨Nat.le_of_ble_eq_true rfl, Nat.le_of_ble_eq_true rfl⟩) ⟨zPc_blind, z_recv hK hR (by decide) rfl rfl, z_pre hK hR⟩ rfl rfl hl.1 rfl (lv_room (Nat.le_of_ble_eq_true rfl)) dX7_kite_109 ⟨Nat.zero_le _, Nat.zero_le _⟩) (fun r46 M45 H locs hR hS hF => ?_)
      refine lv_if_eq (tgt := 123) S.1 S.2.1 dX7_kite_112 (by decide) (fun hc => ?_) (fun hc => ?_)
      · replace hF := z_ct hF hc
        refine lv_iconst (v := 0) S.1 S.2.1 dX7_kite_123 (by decide) ?_
        exact z_iret S hr hlk hR hS hF dX7_kite_124
      · replace hF := z_cf hF hc
        refine lv_aload_n S.1 S.2.1 dX7_kite_115 rfl (lv_at hl 0 rfl) ?_
        refine lv_iload_n S.1 S.2.1 dX7_kite_116 rfl (lv_at hl 1 rfl) ?_
        refine z_goi hS hF (fun _ _ ho => va_runV (C := RX7) (n := 1) (As := [.int v1]) (rest := []) S (kX7_placeOfGreatest l hg ho) (cwV 1 S.2.2.2.2 (zgV wm_X7_129 oX7_placeOfGreatest) rfl rfl rfl hX7_placeOfGreatest ⟨Nat.le_of_ble_eq_true rfl, Nat.le_of_ble_eq_true rfl⟩) ⟨zPc_blind, z_recv hK hR (by decide) rfl rfl, z_pre hK hR⟩ rfl rfl hl.1 rfl (lv_room (Nat.le_of_ble_eq_true rfl)) dX7_kite_117 ⟨Nat.zero_le _, Nat.zero_le _⟩) (fun r48 M47 H locs hR hS hF => ?_)
        refine lv_goto (tgt := 124) S.1 S.2.1 dX7_kite_120 (by decide) ?_
        exact z_iret S hr hlk hR hS hF dX7_kite_124
    replace hF := z_cf hF hc10
    by_cases hc11 : v2 = 11
    · replace hF := z_ct hF hc11
      refine lv_tableIn (tgt := 125) S.1 S.2.1 dX7_kite_11 (by rw [hc11]; decide) (by rw [hc11]; decide) (by rw [hc11]; rfl) (by decide) ?_
      refine lv_aload_n S.1 S.2.1 dX7_kite_125 rfl (lv_at hl 0 rfl) ?_
      refine lv_iload_n S.1 S.2.1 dX7_kite_126 rfl (lv_at hl 1 rfl) ?_
      refine z_goi hS hF (fun _ _ ho => va_runV (C := RX7) (n := 1) (As := [.int v1]) (rest := []) S (kX7_flies l hg ho) (cwV 1 S.2.2.2.2 (zgV wm_X7_55 oX7_flies) rfl rfl rfl hX7_flies ⟨Nat.le_of_ble_eq_true rfl, Nat.le_of_ble_eq_true rfl⟩) ⟨zPc_blind, z_recv hK hR (by decide) rfl rfl, z_pre hK hR⟩ rfl rfl hl.1 rfl (lv_room (Nat.le_of_ble_eq_true rfl)) dX7_kite_127 ⟨Nat.zero_le _, Nat.zero_le _⟩) (fun r50 M49 H locs hR hS hF => ?_)
      refine lv_if_eq (tgt := 141) S.1 S.2.1 dX7_kite_130 (by decide) (fun hc => ?_) (fun hc => ?_)
      · replace hF := z_ct hF hc
        refine lv_iconst (v := 0) S.1 S.2.1 dX7_kite_141 (by decide) ?_
        exact z_iret S hr hlk hR hS hF dX7_kite_142
      · replace hF := z_cf hF hc
        refine lv_aload_n S.1 S.2.1 dX7_kite_133 rfl (lv_at hl 0 rfl) ?_
        refine lv_iload_n S.1 S.2.1 dX7_kite_134 rfl (lv_at hl 1 rfl) ?_
        refine z_goi hS hF (fun _ _ ho => va_runV (C := RX7) (n := 1) (As := [.int v1]) (rest := []) S (kX7_crossingOnes l hg ho) (cwV 1 S.2.2.2.2 (zgV wm_X7_132 oX7_crossingOnes) rfl rfl rfl hX7_crossingOnes ⟨Nat.le_of_ble_eq_true rfl, Nat.le_of_ble_eq_true rfl⟩) ⟨zPc_blind, z_recv hK hR (by decide) rfl rfl, z_pre hK hR⟩ rfl rfl hl.1 rfl (lv_room (Nat.le_of_ble_eq_true rfl)) dX7_kite_135 ⟨Nat.zero_le _, Nat.zero_le _⟩) (fun r52 M51 H locs hR hS hF => ?_)
        refine lv_goto (tgt := 142) S.1 S.2.1 dX7_kite_138 (by decide) ?_
        exact z_iret S hr hlk hR hS hF dX7_kite_142
    replace hF := z_cf hF hc11
    refine lv_tableOut (tgt := 143) S.1 S.2.1 dX7_kite_11 (by have hn0 := z_ne hc0 (n := 0) rfl; have hn1 := z_ne hc1 (n := 1) rfl; have hn2 := z_ne hc2 (n := 2) rfl; have hn3 := z_ne hc3 (n := 3) rfl; have hn4 := z_ne hc4 (n := 4) rfl; have hn5 := z_ne hc5 (n := 5) rfl; have hn6 := z_ne hc6 (n := 6) rfl; have hn7 := z_ne hc7 (n := 7) rfl; have hn8 := z_ne hc8 (n := 8) rfl; have hn9 := z_ne hc9 (n := 9) rfl; have hn10 := z_ne hc10 (n := 10) rfl; have hn11 := z_ne hc11 (n := 11) rfl; omega) (by decide) ?_
    refine lv_bipush (v := (-2)) S.1 S.2.1 dX7_kite_143 (by decide) ?_
    exact z_iret S hr hlk hR hS hF dX7_kite_145
  · replace hF := z_ct hF hc
    refine lv_iconst (v := (-1)) S.1 S.2.1 dX7_kite_8 (by decide) ?_
    exact z_iret S hr hlk hR hS hF dX7_kite_9
theorem hX7_wear : yX7_wear.cls = RX7 ∧ yX7_wear.cls ≠ "java/lang/invoke/MethodHandle" ∧ yX7_wear.cls ≠ "java/lang/invoke/VarHandle" ∧ (parseMethodDescriptor yX7_wear.desc).map (fun d => d.parameters.length) = some 2 := by decide +kernel
theorem oX7_wear : Cond.instanceMethod yX7_wear ∈ zT ∧ Cond.selects RX7 yX7_wear yX7_wear ∈ zT ∧ Cond.initialized RX7 ∈ zT ∧ Cond.code yX7_wear cX7_wear 3 (some .int) ∈ zT := ⟨wv_X7_wear, we_X7_wear, wi_X7, wk_X7_wear⟩
set_option maxRecDepth 100000 in
set_option maxHeartbeats 4000000 in
theorem kX7_wear (l : Launch) {g : zGeo} {z : Nat} (hg : zAd g z) {M M' : zM} {v1 : Int32} {v2 : Int32} {r : Int32} (hF : fX7_wear M v1 v2 = some (r, M')) : Met l yX7_wear [.code yX7_wear cX7_wear 3 (some .int)] { frames := 2, cells := 0, slots := 0, locals := 43 } (zPc g M [.ref (g.1 26 0), .int v1, .int v2]) (zQi g z r M') 0 0 (zS z) := by
  refine z_enter (cc := cX7_wear) (maxL := 3) (ret := (some .int)) (by decide) rfl (Nat.le_of_ble_eq_true rfl) ?_
  intro p e s m below meth c S hr hlk hK hR hS ls hl
  have S : CallFix p m c cX7_wear 3 s _ zT RX7 := S
  have hl : lv_has ls 3 [(0, .ref (g.1 26 0)), (1, .int v1), (2, .int v2)] := hl
  unfold fX7_wear at hF
  refine lv_aload_n S.1 S.2.1 dX7_wear_0 rfl (lv_at hl 0 rfl) ?_
  refine lv_iload_n S.1 S.2.1 dX7_wear_1 rfl (lv_at hl 1 rfl) ?_
  refine z_goi hS hF (fun _ _ ho => va_runV (C := RX7) (n := 1) (As := [.int v1]) (rest := []) S (kX7_isKite l hg ho) (cwV 1 S.2.2.2.2 (zgV wm_X7_114 oX7_isKite) rfl rfl rfl hX7_isKite ⟨Nat.le_of_ble_eq_true rfl, Nat.le_of_ble_eq_true rfl⟩) ⟨zPc_blind, z_recv hK hR (by decide) rfl rfl, z_pre hK hR⟩ rfl rfl hl.1 rfl (lv_room (Nat.le_of_ble_eq_true rfl)) dX7_wear_2 ⟨Nat.zero_le _, Nat.zero_le _⟩) (fun r22 M21 H locs hR hS hF => ?_)
  refine lv_if_eq (tgt := 18) S.1 S.2.1 dX7_wear_5 (by decide) (fun hc => ?_) (fun hc => ?_)
  · replace hF := z_ct hF hc
    refine lv_iconst (v := (-1)) S.1 S.2.1 dX7_wear_18 (by decide) ?_
    exact z_iret S hr hlk hR hS hF dX7_wear_19
  · replace hF := z_cf hF hc
    refine lv_iload_n S.1 S.2.1 dX7_wear_8 rfl (lv_at hl 2 rfl) ?_
    refine lv_iconst (v := 0) S.1 S.2.1 dX7_wear_9 (by decide) ?_
    refine lv_bipush (v := 31) S.1 S.2.1 dX7_wear_10 (by decide) ?_
    refine z_goi hS hF (fun _ _ ho => va_runS (n := 3) (As := [.int v2, .int 0, .int 31]) (rest := []) S (kX7_within l hg ho) (va_cwS 3 S.2.2.2.2 (zgS wm_X7_39 oX7_within) rfl rfl rfl hX7_within.2 ⟨Nat.le_of_ble_eq_true rfl, Nat.le_of_ble_eq_true rfl⟩) ⟨zPc_blind, z_pre hK hR⟩ rfl rfl hl.1 rfl (lv_room (Nat.le_of_ble_eq_true rfl)) dX7_wear_12 ⟨Nat.zero_le _, Nat.zero_le _⟩) (fun r24 M23 H locs hR hS hF => ?_)
    refine lv_if_ne (tgt := 20) S.1 S.2.1 dX7_wear_15 (by decide) (fun hc => ?_) (fun hc => ?_)
    · replace hF := z_cf hF hc
      refine lv_aload_n S.1 S.2.1 dX7_wear_20 rfl (lv_at hl 0 rfl) ?_
      refine lv_iload_n S.1 S.2.1 dX7_wear_21 rfl (lv_at hl 1 rfl) ?_
      refine z_goi hS hF (fun _ _ ho => va_runV (C := RX7) (n := 1) (As := [.int v1]) (rest := []) S (kX7_flies l hg ho) (cwV 1 S.2.2.2.2 (zgV wm_X7_55 oX7_flies) rfl rfl rfl hX7_flies ⟨Nat.le_of_ble_eq_true rfl, Nat.le_of_ble_eq_true rfl⟩) ⟨zPc_blind, z_recv hK hR (by decide) rfl rfl, z_pre hK hR⟩ rfl rfl hl.1 rfl (lv_room (Nat.le_of_ble_eq_true rfl)) dX7_wear_22 ⟨Nat.zero_le _, Nat.zero_le _⟩) (fun r26 M25 H locs hR hS hF => ?_)
      refine lv_if_eq (tgt := 40) S.1 S.2.1 dX7_wear_25 (by decide) (fun hc => ?_) (fun hc => ?_)
      · replace hF := z_ct hF hc
        refine lv_bipush (v := (-5)) S.1 S.2.1 dX7_wear_40 (by decide) ?_
        exact z_iret S hr hlk hR hS hF dX7_wear_42
      · replace hF := z_cf hF hc
        refine lv_aload_n S.1 S.2.1 dX7_wear_28 rfl (lv_at hl 0 rfl) ?_
        refine lv_iload_n S.1 S.2.1 dX7_wear_29 rfl (lv_at hl 1 rfl) ?_
        refine lv_bipush (v := 12) S.1 S.2.1 dX7_wear_30 (by decide) ?_
        refine lv_iload_n S.1 S.2.1 dX7_wear_32 rfl (lv_at hl 2 rfl) ?_
        refine lv_iadd S.1 S.2.1 dX7_wear_33 ?_
        refine z_goi hS hF (fun _ _ ho => va_runV (C := RX7) (n := 2) (As := [.int v1, .int (12 + v2)]) (rest := []) S (kX7_part l hg ho) (cwV 2 S.2.2.2.2 (zgV wm_X7_43 oX7_part) rfl rfl rfl hX7_part ⟨Nat.le_of_ble_eq_true rfl, Nat.le_of_ble_eq_true rfl⟩) ⟨zPc_blind, z_recv hK hR (by decide) rfl rfl, z_pre hK hR⟩ rfl rfl hl.1 rfl (lv_room (Nat.le_of_ble_eq_true rfl)) dX7_wear_34 ⟨Nat.zero_le _, Nat.zero_le _⟩) (fun r28 M27 H locs hR hS hF => ?_)
        refine lv_goto (tgt := 42) S.1 S.2.1 dX7_wear_37 (by decide) ?_
        exact z_iret S hr hlk hR hS hF dX7_wear_42
    · replace hF := z_ct hF hc
      refine lv_iconst (v := (-1)) S.1 S.2.1 dX7_wear_18 (by decide) ?_
      exact z_iret S hr hlk hR hS hF dX7_wear_19
theorem hX7_crossing : yX7_crossing.cls = RX7 ∧ yX7_crossing.cls ≠ "java/lang/invoke/MethodHandle" ∧ yX7_crossing.cls ≠ "java/lang/invoke/VarHandle" ∧ (parseMethodDescriptor yX7_crossing.desc).map (fun d => d.parameters.length) = some 3 := by decide +kernel
theorem oX7_crossing : Cond.instanceMethod yX7_crossing ∈ zT ∧ Cond.selects RX7 yX7_crossing yX7_crossing ∈ zT ∧ Cond.initialized RX7 ∈ zT ∧ Cond.code yX7_crossing cX7_crossing 5 (some .int) ∈ zT := ⟨wv_X7_crossing, we_X7_crossing, wi_X7, wk_X7_crossing⟩
set_option maxRecDepth 100000 in
set_option maxHeartbeats 4000000 in
theorem kX7_crossing (l : Launch) {g : zGeo} {z : Nat} (hg : zAd g z) {M M' : zM} {v1 : Int32} {v2 : Int32} {v3 : Int32} {r : Int32} (hF : fX7_crossing M v1 v2 v3 = some (r, M')) : Met l yX7_crossing [.code yX7_crossing cX7_crossing 5 (some .int)] { frames := 3, cells := 0, slots := 0, locals := 76 } (zPc g M [.ref (g.1 26 0), .int v1, .int v2, .int v3]) (zQi g z r M') 0 0 (zS z) := by
  refine z_enter (cc := cX7_crossing) (maxL := 5) (ret := (some .int)) (by decide) rfl (Nat.le_of_ble_eq_true rfl) ?_
  intro p e s m below meth c S hr hlk hK hR hS ls hl
  have S : CallFix p m c cX7_crossing 5 s _ zT RX7 := S
  have hl : lv_has ls 5 [(0, .ref (g.1 26 0)), (1, .int v1), (2, .int v2), (3, .int v3)] := hl
  unfold fX7_crossing at hF
  refine lv_aload_n S.1 S.2.1 dX7_crossing_0 rfl (lv_at hl 0 rfl) ?_
  refine lv_iload_n S.1 S.2.1 dX7_crossing_1 rfl (lv_at hl 1 rfl) ?_
  refine z_goi hS hF (fun _ _ ho => va_runV (C := RX7) (n := 1) (As := [.int v1]) (rest := []) S (kX7_isKite l hg ho) (cwV 1 S.2.2.2.2 (zgV wm_X7_114 oX7_isKite) rfl rfl rfl hX7_isKite ⟨Nat.le_of_ble_eq_true rfl, Nat.le_of_ble_eq_true rfl⟩) ⟨zPc_blind, z_recv hK hR (by decide) rfl rfl, z_pre hK hR⟩ rfl rfl hl.1 rfl (lv_room (Nat.le_of_ble_eq_true rfl)) dX7_crossing_2 ⟨Nat.zero_le _, Nat.zero_le _⟩) (fun r22 M21 H locs hR hS hF => ?_)
  refine lv_if_eq (tgt := 16) S.1 S.2.1 dX7_crossing_5 (by decide) (fun hc => ?_) (fun hc => ?_)
  · replace hF := z_ct hF hc
    refine lv_iconst (v := (-1)) S.1 S.2.1 dX7_crossing_16 (by decide) ?_
    exact z_iret S hr hlk hR hS hF dX7_crossing_17
  · replace hF := z_cf hF hc
    refine lv_aload_n S.1 S.2.1 dX7_crossing_8 rfl (lv_at hl 0 rfl) ?_
    refine lv_iload_n S.1 S.2.1 dX7_crossing_9 rfl (lv_at hl 2 rfl) ?_
    refine z_goi hS hF (fun _ _ ho => va_runV (C := RX7) (n := 1) (As := [.int v2]) (rest := []) S (kX7_isKite l hg ho) (cwV 1 S.2.2.2.2 (zgV wm_X7_114 oX7_isKite) rfl rfl rfl hX7_isKite ⟨Nat.le_of_ble_eq_true rfl, Nat.le_of_ble_eq_true rfl⟩) ⟨zPc_blind, z_recv hK hR (by decide) rfl rfl, z_pre hK hR⟩ rfl rfl hl.1 rfl (lv_room (Nat.le_of_ble_eq_true rfl)) dX7_crossing_10 ⟨Nat.zero_le _, Nat.zero_le _⟩) (fun r24 M23 H locs hR hS hF => ?_)
    refine lv_if_ne (tgt := 18) S.1 S.2.1 dX7_crossing_13 (by decide) (fun hc => ?_) (fun hc => ?_)
    · replace hF := z_cf hF hc
      refine lv_iload_n S.1 S.2.1 dX7_crossing_18 rfl (lv_at hl 1 rfl) ?_
      refine lv_iload_n S.1 S.2.1 dX7_crossing_19 rfl (lv_at hl 2 rfl) ?_
      refine lv_icmp_eq (tgt := 32) S.1 S.2.1 dX7_crossing_20 (by decide) (fun hc => ?_) (fun hc => ?_)
      · replace hF := z_ct hF hc
        refine lv_bipush (v := (-2)) S.1 S.2.1 dX7_crossing_32 (by decide) ?_
        exact z_iret S hr hlk hR hS hF dX7_crossing_34
      · replace hF := z_cf hF hc
        refine lv_iload_n S.1 S.2.1 dX7_crossing_23 rfl (lv_at hl 3 rfl) ?_
        refine lv_iconst (v := 0) S.1 S.2.1 dX7_crossing_24 (by decide) ?_
        refine lv_iconst (v := 5) S.1 S.2.1 dX7_crossing_25 (by decide) ?_
        refine z_goi hS hF (fun _ _ ho => va_runS (n := 3) (As := [.int v3, .int 0, .int 5]) (rest := []) S (kX7_within l hg ho) (va_cwS 3 S.2.2.2.2 (zgS wm_X7_39 oX7_within) rfl rfl rfl hX7_within.2 ⟨Nat.le_of_ble_eq_true rfl, Nat.le_of_ble_eq_true rfl⟩) ⟨zPc_blind, z_pre hK hR⟩ rfl rfl hl.1 rfl (lv_room (Nat.le_of_ble_eq_true rfl)) dX7_crossing_26 ⟨Nat.zero_le _, Nat.zero_le _⟩) (fun r26 M25 H locs hR hS hF => ?_)
        refine lv_if_ne (tgt := 35) S.1 S.2.1 dX7_crossing_29 (by decide) (fun hc => ?_) (fun hc => ?_)
        · replace hF := z_cf hF hc
          refine lv_aload_n S.1 S.2.1 dX7_crossing_35 rfl (lv_at hl 0 rfl) ?_
          refine lv_iload_n S.1 S.2.1 dX7_crossing_36 rfl (lv_at hl 1 rfl) ?_
          refine z_goi hS hF (fun _ _ ho => va_runV (C := RX7) (n := 1) (As := [.int v1]) (rest := []) S (kX7_flies l hg ho) (cwV 1 S.2.2.2.2 (zgV wm_X7_55 oX7_flies) rfl rfl rfl hX7_flies ⟨Nat.le_of_ble_eq_true rfl, Nat.le_of_ble_eq_true rfl⟩) ⟨zPc_blind, z_recv hK hR (by decide) rfl rfl, z_pre hK hR⟩ rfl rfl hl.1 rfl (lv_room (Nat.le_of_ble_eq_true rfl)) dX7_crossing_37 ⟨Nat.zero_le _, Nat.zero_le _⟩) (fun r28 M27 H locs hR hS hF => ?_)
          refine lv_if_eq (tgt := 51) S.1 S.2.1 dX7_crossing_40 (by decide) (fun hc => ?_) (fun hc => ?_)
          · replace hF := z_ct hF hc
            refine lv_bipush (v := (-5)) S.1 S.2.1 dX7_crossing_51 (by decide) ?_
            exact z_iret S hr hlk hR hS hF dX7_crossing_53
          · replace hF := z_cf hF hc
            refine lv_aload_n S.1 S.2.1 dX7_crossing_43 rfl (lv_at hl 0 rfl) ?_
            refine lv_iload_n S.1 S.2.1 dX7_crossing_44 rfl (lv_at hl 2 rfl) ?_
            refine z_goi hS hF (fun _ _ ho => va_runV (C := RX7) (n := 1) (As := [.int v2]) (rest := []) S (kX7_flies l hg ho) (cwV 1 S.2.2.2.2 (zgV wm_X7_55 oX7_flies) rfl rfl rfl hX7_flies ⟨Nat.le_of_ble_eq_true rfl, Nat.le_of_ble_eq_true rfl⟩) ⟨zPc_blind, z_recv hK hR (by decide) rfl rfl, z_pre hK hR⟩ rfl rfl hl.1 rfl (lv_room (Nat.le_of_ble_eq_true rfl)) dX7_crossing_45 ⟨Nat.zero_le _, Nat.zero_le _⟩) (fun r30 M29 H locs hR hS hF => ?_)
            refine lv_if_ne (tgt := 54) S.1 S.2.1 dX7_crossing_48 (by decide) (fun hc => ?_) (fun hc => ?_)
            · replace hF := z_cf hF hc
              refine lv_aload_n S.1 S.2.1 dX7_crossing_54 rfl (lv_at hl 0 rfl) ?_
              refine lv_iload_n S.1 S.2.1 dX7_crossing_55 rfl (lv_at hl 1 rfl) ?_
              refine lv_iload_n S.1 S.2.1 dX7_crossing_56 rfl (lv_at hl 2 rfl) ?_
              refine z_goi hS hF (fun _ _ ho => va_runV (C := RX7) (n := 2) (As := [.int v1, .int v2]) (rest := []) S (kX7_cross l hg ho) (cwV 2 S.2.2.2.2 (zgV wm_X7_79 oX7_cross) rfl rfl rfl hX7_cross ⟨Nat.le_of_ble_eq_true rfl, Nat.le_of_ble_eq_true rfl⟩) ⟨zPc_blind, z_recv hK hR (by decide) rfl rfl, z_pre hK hR⟩ rfl rfl hl.1 rfl (lv_room (Nat.le_of_ble_eq_true rfl)) dX7_crossing_57 ⟨Nat.zero_le _, Nat.zero_le _⟩) (fun r32 M31 H locs hR hS hF => ?_)
              refine lv_istore (lv' := [(4, .int r32), (0, .ref (g.1 26 0)), (1, .int v1), (2, .int v2), (3, .int v3)]) S.1 S.2.1 dX7_crossing_60 hl (by decide) rfl (fun ls hl => ?_)
              refine lv_iload_n S.1 S.2.1 dX7_crossing_62 rfl (lv_at hl 4 rfl) ?_
              by_cases hc0 : v3 = 0
              · replace hF := z_ct hF hc0
                refine lv_tableIn (tgt := 96) S.1 S.2.1 dX7_crossing_63 (by rw [hc0]; decide) (by rw [hc0]; decide) (by rw [hc0]; rfl) (by decide) ?_
                refine lv_iload S.1 S.2.1 dX7_crossing_96 (lv_at hl 0 rfl) ?_
                refine lv_if_eq (tgt := 105) S.1 S.2.1 dX7_crossing_98 (by decide) (fun hc => ?_) (fun hc => ?_)
                · replace hF := z_ct hF hc
                  refine lv_iconst (v := 0) S.1 S.2.1 dX7_crossing_105 (by decide) ?_
                  exact z_iret S hr hlk hR hS hF dX7_crossing_106
                · replace hF := z_cf hF hc
                  refine lv_iconst (v := 1) S.1 S.2.1 dX7_crossing_101 (by decide) ?_
                  refine lv_goto (tgt := 106) S.1 S.2.1 dX7_crossing_102 (by decide) ?_
                  exact z_iret S hr hlk hR hS hF dX7_crossing_106
              replace hF := z_cf hF hc0
              by_cases hc1 : v3 = 1
              · replace hF := z_ct hF hc1
                refine lv_tableIn (tgt := 107) S.1 S.2.1 dX7_crossing_63 (by rw [hc1]; decide) (by rw [hc1]; decide) (by rw [hc1]; rfl) (by decide) ?_
                refine lv_iload S.1 S.2.1 dX7_crossing_107 (lv_at hl 0 rfl) ?_
                refine lv_if_eq (tgt := 119) S.1 S.2.1 dX7_crossing_109 (by decide) (fun hc => ?_) (fun hc => ?_)
                · replace hF := z_ct hF hc
                  refine lv_bipush (v := (-6)) S.1 S.2.1 dX7_crossing_119 (by decide) ?_
                  exact z_iret S hr hlk hR hS hF dX7_crossing_121
                · replace hF := z_cf hF hc
                  refine lv_aload_n S.1 S.2.1 dX7_crossing_112 rfl (lv_at hl 1 rfl) ?_
                  refine z_get (k := 26) (i := 0) (f := 9) (v := .int (M31 26 0 9)) S hK hR (by decide) rfl rfl (by decide) wf_X7_66 rfl dX7_crossing_113 ?_
                  refine lv_goto (tgt := 121) S.1 S.2.1 dX7_crossing_116 (by decide) ?_
                  exact z_iret S hr hlk hR hS hF dX7_crossing_121
              replace hF := z_cf hF hc1
              by_cases hc2 : v3 = 2
              · replace hF := z_ct hF hc2
                refine lv_tableIn (tgt := 122) S.1 S.2.1 dX7_crossing_63 (by rw [hc2]; decide) (by rw [hc2]; decide) (by rw [hc2]; rfl) (by decide) ?_
                refine lv_iload S.1 S.2.1 dX7_crossing_122 (lv_at hl 0 rfl) ?_
                refine lv_if_eq (tgt := 134) S.1 S.2.1 dX7_crossing_124 (by decide) (fun hc => ?_) (fun hc => ?_)
                · replace hF := z_ct hF hc
                  refine lv_bipush (v := (-6)) S.1 S.2.1 dX7_crossing_134 (by decide) ?_
                  exact z_iret S hr hlk hR hS hF dX7_crossing_136
                · replace hF := z_cf hF hc
                  refine lv_aload_n S.1 S.2.1 dX7_crossing_127 rfl (lv_at hl 1 rfl) ?_
                  refine z_get (k := 26) (i := 0) (f := 10) (v := .int (M31 26 0 10)) S hK hR (by decide) rfl rfl (by decide) wf_X7_69 rfl dX7_crossing_128 ?_
                  refine lv_goto (tgt := 136) S.1 S.2.1 dX7_crossing_131 (by decide) ?_
                  exact z_iret S hr hlk hR hS hF dX7_crossing_136
              replace hF := z_cf hF hc2
              by_cases hc3 : v3 = 3
              · replace hF := z_ct hF hc3
                refine lv_tableIn (tgt := 137) S.1 S.2.1 dX7_crossing_63 (by rw [hc3]; decide) (by rw [hc3]; decide) (by rw [hc3]; rfl) (by decide) ?_
                refine lv_iload S.1 S.2.1 dX7_crossing_137 (lv_at hl 0 rfl) ?_
                refine lv_if_ne (tgt := 147) S.1 S.2.1 dX7_crossing_139 (by decide) (fun hc => ?_) (fun hc => ?_)
                · replace hF := z_cf hF hc
                  refine lv_aload_n S.1 S.2.1 dX7_crossing_147 rfl (lv_at hl 1 rfl) ?_
                  refine z_get (k := 26) (i := 0) (f := 11) (v := .int (M31 26 0 11)) S hK hR (by decide) rfl rfl (by decide) wf_X7_72 rfl dX7_crossing_148 ?_
                  refine lv_if_eq (tgt := 158) S.1 S.2.1 dX7_crossing_151 (by decide) (fun hc => ?_) (fun hc => ?_)
                  · replace hF := z_ct hF hc
                    refine lv_iconst (v := 0) S.1 S.2.1 dX7_crossing_158 (by decide) ?_
                    exact z_iret S hr hlk hR hS hF dX7_crossing_159
                  · replace hF := z_cf hF hc
                    refine lv_iconst (v := 1) S.1 S.2.1 dX7_crossing_154 (by decide) ?_
                    refine lv_goto (tgt := 159) S.1 S.2.1 dX7_crossing_155 (by decide) ?_
                    exact z_iret S hr hlk hR hS hF dX7_crossing_159
                · replace hF := z_ct hF hc
                  refine lv_bipush (v := (-6)) S.1 S.2.1 dX7_crossing_142 (by decide) ?_
                  refine lv_goto (tgt := 159) S.1 S.2.1 dX7_crossing_144 (by decide) ?_
                  exact z_iret S hr hlk hR hS hF dX7_crossing_159
              replace hF := z_cf hF hc3
              by_cases hc4 : v3 = 4
              · replace hF := z_ct hF hc4
                refine lv_tableIn (tgt := 160) S.1 S.2.1 dX7_crossing_63 (by rw [hc4]; decide) (by rw [hc4]; decide) (by rw [hc4]; rfl) (by decide) ?_
                refine lv_aload_n S.1 S.2.1 dX7_crossing_160 rfl (lv_at hl 1 rfl) ?_
                refine lv_iload_n S.1 S.2.1 dX7_crossing_161 rfl (lv_at hl 2 rfl) ?_
                refine lv_iload_n S.1 S.2.1 dX7_crossing_162 rfl (lv_at hl 3 rfl) ?_
                refine z_goi hS hF (fun _ _ ho => va_runV (C := RX7) (n := 2) (As := [.int v1, .int v2]) (rest := []) S (kX7_sliding l hg ho) (cwV 2 S.2.2.2.2 (zgV wm_X7_76 oX7_sliding) rfl rfl rfl hX7_sliding ⟨Nat.le_of_ble_eq_true rfl, Nat.le_of_ble_eq_true rfl⟩) ⟨zPc_blind, z_recv hK hR (by decide) rfl rfl, z_pre hK hR⟩ rfl rfl hl.1 rfl (lv_room (Nat.le_of_ble_eq_true rfl)) dX7_crossing_163 ⟨Nat.zero_le _, Nat.zero_le _⟩) (fun r34 M33 H locs hR hS hF => ?_)
                exact z_iret S hr hlk hR hS hF dX7_crossing_166
              replace hF := z_cf hF hc4
              refine lv_tableOut (tgt := 167) S.1 S.2.1 dX7_crossing_63 (by have hn0 := z_ne hc0 (n := 0) rfl; have hn1 := z_ne hc1 (n := 1) rfl; have hn2 := z_ne hc2 (n := 2) rfl; have hn3 := z_ne hc3 (n := 3) rfl; have hn4 := z_ne hc4 (n := 4) rfl; omega) (by decide) ?_
              refine lv_iload S.1 S.2.1 dX7_crossing_167 (lv_at hl 0 rfl) ?_
              refine lv_if_eq (tgt := 181) S.1 S.2.1 dX7_crossing_169 (by decide) (fun hc => ?_) (fun hc => ?_)
              · replace hF := z_ct hF hc
                refine lv_iconst (v := 0) S.1 S.2.1 dX7_crossing_181 (by decide) ?_
                exact z_iret S hr hlk hR hS hF dX7_crossing_182
              · replace hF := z_cf hF hc
                refine lv_aload_n S.1 S.2.1 dX7_crossing_172 rfl (lv_at hl 1 rfl) ?_
                refine lv_iload_n S.1 S.2.1 dX7_crossing_173 rfl (lv_at hl 2 rfl) ?_
                refine lv_iload_n S.1 S.2.1 dX7_crossing_174 rfl (lv_at hl 3 rfl) ?_
                refine z_goi hS hF (fun _ _ ho => va_runV (C := RX7) (n := 2) (As := [.int v1, .int v2]) (rest := []) S (kX7_more l hg ho) (cwV 2 S.2.2.2.2 (zgV wm_X7_86 oX7_more) rfl rfl rfl hX7_more ⟨Nat.le_of_ble_eq_true rfl, Nat.le_of_ble_eq_true rfl⟩) ⟨zPc_blind, z_recv hK hR (by decide) rfl rfl, z_pre hK hR⟩ rfl rfl hl.1 rfl (lv_room (Nat.le_of_ble_eq_true rfl)) dX7_crossing_175 ⟨Nat.zero_le _, Nat.zero_le _⟩) (fun r36 M35 H locs hR hS hF => ?_)
                refine lv_goto (tgt := 182) S.1 S.2.1 dX7_crossing_178 (by decide) ?_
                exact z_iret S hr hlk hR hS hF dX7_crossing_182
            · replace hF := z_ct hF hc
              refine lv_bipush (v := (-5)) S.1 S.2.1 dX7_crossing_51 (by decide) ?_
              exact z_iret S hr hlk hR hS hF dX7_crossing_53
        · replace hF := z_ct hF hc
          refine lv_bipush (v := (-2)) S.1 S.2.1 dX7_crossing_32 (by decide) ?_
          exact z_iret S hr hlk hR hS hF dX7_crossing_34
    · replace hF := z_ct hF hc
      refine lv_iconst (v := (-1)) S.1 S.2.1 dX7_crossing_16 (by decide) ?_
      exact z_iret S hr hlk hR hS hF dX7_crossing_17
theorem hX7_inTheAir : yX7_inTheAir.cls = RX7 ∧ yX7_inTheAir.cls ≠ "java/lang/invoke/MethodHandle" ∧ yX7_inTheAir.cls ≠ "java/lang/invoke/VarHandle" ∧ (parseMethodDescriptor yX7_inTheAir.desc).map (fun d => d.parameters.length) = some 0 := by decide +kernel
theorem oX7_inTheAir : Cond.instanceMethod yX7_inTheAir ∈ zT ∧ Cond.selects RX7 yX7_inTheAir yX7_inTheAir ∈ zT ∧ Cond.initialized RX7 ∈ zT ∧ Cond.code yX7_inTheAir cX7_inTheAir 3 (some .int) ∈ zT := ⟨wv_X7_inTheAir, we_X7_inTheAir, wi_X7, wk_X7_inTheAir⟩
set_option maxRecDepth 100000 in
set_option maxHeartbeats 4000000 in
theorem kX7_inTheAir (l : Launch) {g : zGeo} {z : Nat} (hg : zAd g z) {M M' : zM}  {r : Int32} (hF : fX7_inTheAir M = some (r, M')) : Met l yX7_inTheAir [.code yX7_inTheAir cX7_inTheAir 3 (some .int)] { frames := 2, cells := 0, slots := 0, locals := 43 } (zPc g M [.ref (g.1 26 0)]) (zQi g z r M') 0 0 (zS z) := by
  refine z_enter (cc := cX7_inTheAir) (maxL := 3) (ret := (some .int)) (by decide) rfl (Nat.le_of_ble_eq_true rfl) ?_
  intro p e s m below meth c S hr hlk hK hR hS ls hl
  have S : CallFix p m c cX7_inTheAir 3 s _ zT RX7 := S
  have hl : lv_has ls 3 [(0, .ref (g.1 26 0))] := hl
  have L4 : ∀ (k : zM → Int32 → Int32 → Option (Int32 × zM)) , (∀ (M : zM) (a1 : Int32) (a2 : Int32) (H : Heap) (locs : List Loc), zR g M H → va_S (zS z) s.heap H locs → ∀ ls : Array Slot, lv_has ls 3 [(0, .ref (g.1 26 0)), (1, .int a1), (2, .int a2)] → k M a1 a2 = some (r, M') → W p l e { frames := 2, cells := 0, slots := 0, locals := 43 } s m ([.ref (g.1 26 0)] : List Value).toArray below meth c H locs 0 0 (MQ below (zQi g z r M') ([.ref (g.1 26 0)] : List Value).toArray s 0 0 (zS z)) (F0 m 38 ls [])) → ∀ (n : Nat) (M : zM) (a1 : Int32) (a2 : Int32) (H : Heap) (locs : List Loc), zR g M H → va_S (zS z) s.heap H locs → ∀ ls : Array Slot, lv_has ls 3 [(0, .ref (g.1 26 0)), (1, .int a1), (2, .int a2)] → fX7_inTheAir_L4 k n M a1 a2 = some (r, M') → W p l e { frames := 2, cells := 0, slots := 0, locals := 43 } s m ([.ref (g.1 26 0)] : List Value).toArray below meth c H locs 0 0 (MQ below (zQi g z r M') ([.ref (g.1 26 0)] : List Value).toArray s 0 0 (zS z)) (F0 m 4 ls []) := by
    intro k  hk n
    induction n with
    | zero =>
      intro M a1 a2 H locs hR hS ls hl hF
      cases hF
    | succ n ih =>
      intro M a1 a2 H locs hR hS ls hl hF
      unfold fX7_inTheAir_L4 at hF
      refine lv_iload_n S.1 S.2.1 dX7_inTheAir_4 rfl (lv_at hl 2 rfl) ?_
      refine lv_aload_n S.1 S.2.1 dX7_inTheAir_5 rfl (lv_at hl 0 rfl) ?_
      refine z_get (k := 26) (i := 0) (f := 0) (v := .ref (g.1 27 0)) S hK hR (by decide) rfl rfl (by decide) wf_X7_7 rfl dX7_inTheAir_6 ?_
      refine lv_iconst (v := 0) S.1 S.2.1 dX7_inTheAir_9 (by decide) ?_
      refine z_iald (k := 27) (i := 0) (n := 268) S hK hR hF (by decide) rfl dX7_inTheAir_10 (fun hF => ?_)
      refine lv_icmp_ge (tgt := 38) S.1 S.2.1 dX7_inTheAir_11 (by decide) (fun hc => ?_) (fun hc => ?_)
      · replace hF := z_ct hF hc
        exact hk _ _ _ _ _ hR hS _ (lv_sub hl [0, 1, 2] rfl) hF
      · replace hF := z_cf hF hc
        refine lv_iload_n S.1 S.2.1 dX7_inTheAir_14 rfl (lv_at hl 1 rfl) ?_
        refine lv_aload_n S.1 S.2.1 dX7_inTheAir_15 rfl (lv_at hl 0 rfl) ?_
        refine lv_iload_n S.1 S.2.1 dX7_inTheAir_16 rfl (lv_at hl 2 rfl) ?_
        refine z_goi hS hF (fun _ _ ho => va_runV (C := RX7) (n := 1) (As := [.int a2]) (rest := [.int a1]) S (kX7_flies l hg ho) (cwV 1 S.2.2.2.2 (zgV wm_X7_55 oX7_flies) rfl rfl rfl hX7_flies ⟨Nat.le_of_ble_eq_true rfl, Nat.le_of_ble_eq_true rfl⟩) ⟨zPc_blind, z_recv hK hR (by decide) rfl rfl, z_pre hK hR⟩ rfl rfl hl.1 rfl (lv_room (Nat.le_of_ble_eq_true rfl)) dX7_inTheAir_17 ⟨Nat.zero_le _, Nat.zero_le _⟩) (fun r22 M21 H locs hR hS hF => ?_)
        refine lv_if_eq (tgt := 29) S.1 S.2.1 dX7_inTheAir_20 (by decide) (fun hc => ?_) (fun hc => ?_)
        · replace hF := z_ct hF hc
          refine lv_iconst (v := 0) S.1 S.2.1 dX7_inTheAir_29 (by decide) ?_
          refine lv_ior S.1 S.2.1 dX7_inTheAir_30 ?_
          refine z_nm hF (fun v23 hF => ?_)
          refine lv_istore_n (lv' := [(1, .int v23), (0, .ref (g.1 26 0)), (2, .int a2)]) S.1 S.2.1 dX7_inTheAir_31 rfl hl (by decide) rfl (fun ls hl => ?_)
          obtain ⟨v24, ev24, hF⟩ := zL_out hF
          refine lv_iinc (v := v24) (lv' := [(2, .int v24), (1, .int v23), (0, .ref (g.1 26 0))]) S.1 S.2.1 dX7_inTheAir_32 hl (k := 2) rfl (by rw [← ev24]; rfl) (by decide) rfl (fun ls hl => ?_)
          refine lv_goto (tgt := 4) S.1 S.2.1 dX7_inTheAir_35 (by decide) ?_
          exact ih _ _ _ _ _ hR hS _ (lv_sub hl [2, 1, 0] rfl) hF
        · replace hF := z_cf hF hc
          refine lv_iconst (v := 1) S.1 S.2.1 dX7_inTheAir_23 (by decide) ?_
          refine lv_iload_n S.1 S.2.1 dX7_inTheAir_24 rfl (lv_at hl 2 rfl) ?_
          refine lv_ishl S.1 S.2.1 dX7_inTheAir_25 ?_
          refine lv_goto (tgt := 30) S.1 S.2.1 dX7_inTheAir_26 (by decide) ?_
          refine lv_ior S.1 S.2.1 dX7_inTheAir_30 ?_
          refine z_nm hF (fun v25 hF => ?_)
          refine lv_istore_n (lv' := [(1, .int v25), (0, .ref (g.1 26 0)), (2, .int a2)]) S.1 S.2.1 dX7_inTheAir_31 rfl hl (by decide) rfl (fun ls hl => ?_)
          obtain ⟨v26, ev26, hF⟩ := zL_out hF
          refine lv_iinc (v := v26) (lv' := [(2, .int v26), (1, .int v25), (0, .ref (g.1 26 0))]) S.1 S.2.1 dX7_inTheAir_32 hl (k := 2) rfl (by rw [← ev26]; rfl) (by decide) rfl (fun ls hl => ?_)
          refine lv_goto (tgt := 4) S.1 S.2.1 dX7_inTheAir_35 (by decide) ?_
          exact ih _ _ _ _ _ hR hS _ (lv_sub hl [2, 1, 0] rfl) hF
  unfold fX7_inTheAir at hF
  refine lv_iconst (v := 0) S.1 S.2.1 dX7_inTheAir_0 (by decide) ?_
  refine lv_istore_n (lv' := [(1, .int 0), (0, .ref (g.1 26 0))]) S.1 S.2.1 dX7_inTheAir_1 rfl hl (by decide) rfl (fun ls hl => ?_)
  refine lv_iconst (v := 0) S.1 S.2.1 dX7_inTheAir_2 (by decide) ?_
  refine lv_istore_n (lv' := [(2, .int 0), (1, .int 0), (0, .ref (g.1 26 0))]) S.1 S.2.1 dX7_inTheAir_3 rfl hl (by decide) rfl (fun ls hl => ?_)
  refine L4 _ (fun M27 v28 v29 H locs hR hS ls hl hF => ?_) _ _ _ _ _ _ hR hS _ (lv_sub hl [2, 1, 0] rfl) hF
  refine lv_iload_n S.1 S.2.1 dX7_inTheAir_38 rfl (lv_at hl 1 rfl) ?_
  exact z_iret S hr hlk hR hS hF dX7_inTheAir_39
theorem hX7_leader : yX7_leader.cls = RX7 ∧ yX7_leader.cls ≠ "java/lang/invoke/MethodHandle" ∧ yX7_leader.cls ≠ "java/lang/invoke/VarHandle" ∧ (parseMethodDescriptor yX7_leader.desc).map (fun d => d.parameters.length) = some 0 := by decide +kernel
theorem oX7_leader : Cond.instanceMethod yX7_leader ∈ zT ∧ Cond.selects RX7 yX7_leader yX7_leader ∈ zT ∧ Cond.initialized RX7 ∈ zT ∧ Cond.code yX7_leader cX7_leader 3 (some .int) ∈ zT := ⟨wv_X7_leader, we_X7_leader, wi_X7, wk_X7_leader⟩
set_option maxRecDepth 100000 in
set_option maxHeartbeats 4000000 in
theorem kX7_leader (l : Launch) {g : zGeo} {z : Nat} (hg : zAd g z) {M M' : zM}  {r : Int32} (hF : fX7_leader M = some (r, M')) : Met l yX7_leader [.code yX7_leader cX7_leader 3 (some .int)] { frames := 1, cells := 0, slots := 0, locals := 22 } (zPc g M [.ref (g.1 26 0)]) (zQi g z r M') 0 0 (zS z) := by
  refine z_enter (cc := cX7_leader) (maxL := 3) (ret := (some .int)) (by decide) rfl (Nat.le_of_ble_eq_true rfl) ?_
  intro p e s m below meth c S hr hlk hK hR hS ls hl
  have S : CallFix p m c cX7_leader 3 s _ zT RX7 := S
  have hl : lv_has ls 3 [(0, .ref (g.1 26 0))] := hl
  have L5 : ∀ (k : zM → Int32 → Int32 → Option (Int32 × zM)) , (∀ (M : zM) (a1 : Int32) (a2 : Int32) (H : Heap) (locs : List Loc), zR g M H → va_S (zS z) s.heap H locs → ∀ ls : Array Slot, lv_has ls 3 [(0, .ref (g.1 26 0)), (1, .int a1), (2, .int a2)] → k M a1 a2 = some (r, M') → W p l e { frames := 1, cells := 0, slots := 0, locals := 22 } s m ([.ref (g.1 26 0)] : List Value).toArray below meth c H locs 0 0 (MQ below (zQi g z r M') ([.ref (g.1 26 0)] : List Value).toArray s 0 0 (zS z)) (F0 m 50 ls [])) → ∀ (n : Nat) (M : zM) (a1 : Int32) (a2 : Int32) (H : Heap) (locs : List Loc), zR g M H → va_S (zS z) s.heap H locs → ∀ ls : Array Slot, lv_has ls 3 [(0, .ref (g.1 26 0)), (1, .int a1), (2, .int a2)] → fX7_leader_L5 k n M a1 a2 = some (r, M') → W p l e { frames := 1, cells := 0, slots := 0, locals := 22 } s m ([.ref (g.1 26 0)] : List Value).toArray below meth c H locs 0 0 (MQ below (zQi g z r M') ([.ref (g.1 26 0)] : List Value).toArray s 0 0 (zS z)) (F0 m 5 ls []) := by
    intro k  hk n
    induction n with
    | zero =>
      intro M a1 a2 H locs hR hS ls hl hF
      cases hF
    | succ n ih =>
      intro M a1 a2 H locs hR hS ls hl hF
      unfold fX7_leader_L5 at hF
      refine lv_iload_n S.1 S.2.1 dX7_leader_5 rfl (lv_at hl 2 rfl) ?_
      refine lv_aload_n S.1 S.2.1 dX7_leader_6 rfl (lv_at hl 0 rfl) ?_
      refine z_get (k := 26) (i := 0) (f := 0) (v := .ref (g.1 27 0)) S hK hR (by decide) rfl rfl (by decide) wf_X7_7 rfl dX7_leader_7 ?_
      refine lv_iconst (v := 0) S.1 S.2.1 dX7_leader_10 (by decide) ?_
      refine z_iald (k := 27) (i := 0) (n := 268) S hK hR hF (by decide) rfl dX7_leader_11 (fun hF => ?_)
      refine lv_icmp_ge (tgt := 50) S.1 S.2.1 dX7_leader_12 (by decide) (fun hc => ?_) (fun hc => ?_)
      · replace hF := z_ct hF hc
        exact hk _ _ _ _ _ hR hS _ (lv_sub hl [0, 1, 2] rfl) hF
      · replace hF := z_cf hF hc
        refine lv_iload_n S.1 S.2.1 dX7_leader_15 rfl (lv_at hl 1 rfl) ?_
        refine lv_bipush (v := (-6)) S.1 S.2.1 dX7_leader_16 (by decide) ?_
        refine lv_icmp_eq (tgt := 38) S.1 S.2.1 dX7_leader_18 (by decide) (fun hc => ?_) (fun hc => ?_)
        · replace hF := z_ct hF hc
          refine lv_iload_n S.1 S.2.1 dX7_leader_38 rfl (lv_at hl 2 rfl) ?_
          refine lv_goto (tgt := 43) S.1 S.2.1 dX7_leader_39 (by decide) ?_
          refine lv_istore_n (lv' := [(1, .int a2), (0, .ref (g.1 26 0)), (2, .int a2)]) S.1 S.2.1 dX7_leader_43 rfl hl (by decide) rfl (fun ls hl => ?_)
          obtain ⟨v21, ev21, hF⟩ := zL_out hF
          refine lv_iinc (v := v21) (lv' := [(2, .int v21), (1, .int a2), (0, .ref (g.1 26 0))]) S.1 S.2.1 dX7_leader_44 hl (k := 2) rfl (by rw [← ev21]; rfl) (by decide) rfl (fun ls hl => ?_)
          refine lv_goto (tgt := 5) S.1 S.2.1 dX7_leader_47 (by decide) ?_
          exact ih _ _ _ _ _ hR hS _ (lv_sub hl [2, 1, 0] rfl) hF
        · replace hF := z_cf hF hc
          refine lv_aload_n S.1 S.2.1 dX7_leader_21 rfl (lv_at hl 0 rfl) ?_
          refine lv_iload_n S.1 S.2.1 dX7_leader_22 rfl (lv_at hl 2 rfl) ?_
          refine lv_bipush (v := 7) S.1 S.2.1 dX7_leader_23 (by decide) ?_
          refine z_goi hS hF (fun _ _ ho => va_runV (C := RX7) (n := 2) (As := [.int a2, .int 7]) (rest := []) S (kX7_part l hg ho) (cwV 2 S.2.2.2.2 (zgV wm_X7_43 oX7_part) rfl rfl rfl hX7_part ⟨Nat.le_of_ble_eq_true rfl, Nat.le_of_ble_eq_true rfl⟩) ⟨zPc_blind, z_recv hK hR (by decide) rfl rfl, z_pre hK hR⟩ rfl rfl hl.1 rfl (lv_room (Nat.le_of_ble_eq_true rfl)) dX7_leader_25 ⟨Nat.zero_le _, Nat.zero_le _⟩) (fun r23 M22 H locs hR hS hF => ?_)
          refine lv_aload_n S.1 S.2.1 dX7_leader_28 rfl (lv_at hl 0 rfl) ?_
          refine lv_iload_n S.1 S.2.1 dX7_leader_29 rfl (lv_at hl 1 rfl) ?_
          refine lv_bipush (v := 7) S.1 S.2.1 dX7_leader_30 (by decide) ?_
          refine z_goi hS hF (fun _ _ ho => va_runV (C := RX7) (n := 2) (As := [.int a1, .int 7]) (rest := [.int r23]) S (kX7_part l hg ho) (cwV 2 S.2.2.2.2 (zgV wm_X7_43 oX7_part) rfl rfl rfl hX7_part ⟨Nat.le_of_ble_eq_true rfl, Nat.le_of_ble_eq_true rfl⟩) ⟨zPc_blind, z_recv hK hR (by decide) rfl rfl, z_pre hK hR⟩ rfl rfl hl.1 rfl (lv_room (Nat.le_of_ble_eq_true rfl)) dX7_leader_32 ⟨Nat.zero_le _, Nat.zero_le _⟩) (fun r25 M24 H locs hR hS hF => ?_)
          refine lv_icmp_le (tgt := 42) S.1 S.2.1 dX7_leader_35 (by decide) (fun hc => ?_) (fun hc => ?_)
          · replace hF := z_ct hF hc
            refine lv_iload_n S.1 S.2.1 dX7_leader_42 rfl (lv_at hl 1 rfl) ?_
            refine lv_istore_n (lv' := [(1, .int a1), (0, .ref (g.1 26 0)), (2, .int a2)]) S.1 S.2.1 dX7_leader_43 rfl hl (by decide) rfl (fun ls hl => ?_)
            obtain ⟨v26, ev26, hF⟩ := zL_out hF
            refine lv_iinc (v := v26) (lv' := [(2, .int v26), (1, .int a1), (0, .ref (g.1 26 0))]) S.1 S.2.1 dX7_leader_44 hl (k := 2) rfl (by rw [← ev26]; rfl) (by decide) rfl (fun ls hl => ?_)
            refine lv_goto (tgt := 5) S.1 S.2.1 dX7_leader_47 (by decide) ?_
            exact ih _ _ _ _ _ hR hS _ (lv_sub hl [2, 1, 0] rfl) hF
          · replace hF := z_cf hF hc
            refine lv_iload_n S.1 S.2.1 dX7_leader_38 rfl (lv_at hl 2 rfl) ?_
            refine lv_goto (tgt := 43) S.1 S.2.1 dX7_leader_39 (by decide) ?_
            refine lv_istore_n (lv' := [(1, .int a2), (0, .ref (g.1 26 0)), (2, .int a2)]) S.1 S.2.1 dX7_leader_43 rfl hl (by decide) rfl (fun ls hl => ?_)
            obtain ⟨v27, ev27, hF⟩ := zL_out hF
            refine lv_iinc (v := v27) (lv' := [(2, .int v27), (1, .int a2), (0, .ref (g.1 26 0))]) S.1 S.2.1 dX7_leader_44 hl (k := 2) rfl (by rw [← ev27]; rfl) (by decide) rfl (fun ls hl => ?_)
            refine lv_goto (tgt := 5) S.1 S.2.1 dX7_leader_47 (by decide) ?_
            exact ih _ _ _ _ _ hR hS _ (lv_sub hl [2, 1, 0] rfl) hF
  unfold fX7_leader at hF
  refine lv_bipush (v := (-6)) S.1 S.2.1 dX7_leader_0 (by decide) ?_
  refine lv_istore_n (lv' := [(1, .int (-6)), (0, .ref (g.1 26 0))]) S.1 S.2.1 dX7_leader_2 rfl hl (by decide) rfl (fun ls hl => ?_)
  refine lv_iconst (v := 0) S.1 S.2.1 dX7_leader_3 (by decide) ?_
  refine lv_istore_n (lv' := [(2, .int 0), (1, .int (-6)), (0, .ref (g.1 26 0))]) S.1 S.2.1 dX7_leader_4 rfl hl (by decide) rfl (fun ls hl => ?_)
  refine L5 _ (fun M28 v29 v30 H locs hR hS ls hl hF => ?_) _ _ _ _ _ _ hR hS _ (lv_sub hl [2, 1, 0] rfl) hF
  refine lv_iload_n S.1 S.2.1 dX7_leader_50 rfl (lv_at hl 1 rfl) ?_
  exact z_iret S hr hlk hR hS hF dX7_leader_51
theorem hX7_allPoints : yX7_allPoints.cls = RX7 ∧ yX7_allPoints.cls ≠ "java/lang/invoke/MethodHandle" ∧ yX7_allPoints.cls ≠ "java/lang/invoke/VarHandle" ∧ (parseMethodDescriptor yX7_allPoints.desc).map (fun d => d.parameters.length) = some 0 := by decide +kernel
theorem oX7_allPoints : Cond.instanceMethod yX7_allPoints ∈ zT ∧ Cond.selects RX7 yX7_allPoints yX7_allPoints ∈ zT ∧ Cond.initialized RX7 ∈ zT ∧ Cond.code yX7_allPoints cX7_allPoints 3 (some .int) ∈ zT := ⟨wv_X7_allPoints, we_X7_allPoints, wi_X7, wk_X7_allPoints⟩
set_option maxRecDepth 100000 in
set_option maxHeartbeats 4000000 in
theorem kX7_allPoints (l : Launch) {g : zGeo} {z : Nat} (hg : zAd g z) {M M' : zM}  {r : Int32} (hF : fX7_allPoints M = some (r, M')) : Met l yX7_allPoints [.code yX7_allPoints cX7_allPoints 3 (some .int)] { frames := 1, cells := 0, slots := 0, locals := 22 } (zPc g M [.ref (g.1 26 0)]) (zQi g z r M') 0 0 (zS z) := by
  refine z_enter (cc := cX7_allPoints) (maxL := 3) (ret := (some .int)) (by decide) rfl (Nat.le_of_ble_eq_true rfl) ?_
  intro p e s m below meth c S hr hlk hK hR hS ls hl
  have S : CallFix p m c cX7_allPoints 3 s _ zT RX7 := S
  have hl : lv_has ls 3 [(0, .ref (g.1 26 0))] := hl
  have L4 : ∀ (k : zM → Int32 → Int32 → Option (Int32 × zM)) , (∀ (M : zM) (a1 : Int32) (a2 : Int32) (H : Heap) (locs : List Loc), zR g M H → va_S (zS z) s.heap H locs → ∀ ls : Array Slot, lv_has ls 3 [(0, .ref (g.1 26 0)), (1, .int a1), (2, .int a2)] → k M a1 a2 = some (r, M') → W p l e { frames := 1, cells := 0, slots := 0, locals := 22 } s m ([.ref (g.1 26 0)] : List Value).toArray below meth c H locs 0 0 (MQ below (zQi g z r M') ([.ref (g.1 26 0)] : List Value).toArray s 0 0 (zS z)) (F0 m 30 ls [])) → ∀ (n : Nat) (M : zM) (a1 : Int32) (a2 : Int32) (H : Heap) (locs : List Loc), zR g M H → va_S (zS z) s.heap H locs → ∀ ls : Array Slot, lv_has ls 3 [(0, .ref (g.1 26 0)), (1, .int a1), (2, .int a2)] → fX7_allPoints_L4 k n M a1 a2 = some (r, M') → W p l e { frames := 1, cells := 0, slots := 0, locals := 22 } s m ([.ref (g.1 26 0)] : List Value).toArray below meth c H locs 0 0 (MQ below (zQi g z r M') ([.ref (g.1 26 0)] : List Value).toArray s 0 0 (zS z)) (F0 m 4 ls []) := by
    intro k  hk n
    induction n with
    | zero =>
      intro M a1 a2 H locs hR hS ls hl hF
      cases hF
    | succ n ih =>
      intro M a1 a2 H locs hR hS ls hl hF
      unfold fX7_allPoints_L4 at hF
      refine lv_iload_n S.1 S.2.1 dX7_allPoints_4 rfl (lv_at hl 2 rfl) ?_
      refine lv_aload_n S.1 S.2.1 dX7_allPoints_5 rfl (lv_at hl 0 rfl) ?_
      refine z_get (k := 26) (i := 0) (f := 0) (v := .ref (g.1 27 0)) S hK hR (by decide) rfl rfl (by decide) wf_X7_7 rfl dX7_allPoints_6 ?_
      refine lv_iconst (v := 0) S.1 S.2.1 dX7_allPoints_9 (by decide) ?_
      refine z_iald (k := 27) (i := 0) (n := 268) S hK hR hF (by decide) rfl dX7_allPoints_10 (fun hF => ?_)
      refine lv_icmp_ge (tgt := 30) S.1 S.2.1 dX7_allPoints_11 (by decide) (fun hc => ?_) (fun hc => ?_)
      · replace hF := z_ct hF hc
        exact hk _ _ _ _ _ hR hS _ (lv_sub hl [0, 1, 2] rfl) hF
      · replace hF := z_cf hF hc
        refine lv_iload_n S.1 S.2.1 dX7_allPoints_14 rfl (lv_at hl 1 rfl) ?_
        refine lv_aload_n S.1 S.2.1 dX7_allPoints_15 rfl (lv_at hl 0 rfl) ?_
        refine lv_iload_n S.1 S.2.1 dX7_allPoints_16 rfl (lv_at hl 2 rfl) ?_
        refine lv_bipush (v := 7) S.1 S.2.1 dX7_allPoints_17 (by decide) ?_
        refine z_goi hS hF (fun _ _ ho => va_runV (C := RX7) (n := 2) (As := [.int a2, .int 7]) (rest := [.int a1]) S (kX7_part l hg ho) (cwV 2 S.2.2.2.2 (zgV wm_X7_43 oX7_part) rfl rfl rfl hX7_part ⟨Nat.le_of_ble_eq_true rfl, Nat.le_of_ble_eq_true rfl⟩) ⟨zPc_blind, z_recv hK hR (by decide) rfl rfl, z_pre hK hR⟩ rfl rfl hl.1 rfl (lv_room (Nat.le_of_ble_eq_true rfl)) dX7_allPoints_19 ⟨Nat.zero_le _, Nat.zero_le _⟩) (fun r22 M21 H locs hR hS hF => ?_)
        refine lv_iadd S.1 S.2.1 dX7_allPoints_22 ?_
        refine z_nm hF (fun v23 hF => ?_)
        refine lv_istore_n (lv' := [(1, .int v23), (0, .ref (g.1 26 0)), (2, .int a2)]) S.1 S.2.1 dX7_allPoints_23 rfl hl (by decide) rfl (fun ls hl => ?_)
        obtain ⟨v24, ev24, hF⟩ := zL_out hF
        refine lv_iinc (v := v24) (lv' := [(2, .int v24), (1, .int v23), (0, .ref (g.1 26 0))]) S.1 S.2.1 dX7_allPoints_24 hl (k := 2) rfl (by rw [← ev24]; rfl) (by decide) rfl (fun ls hl => ?_)
        refine lv_goto (tgt := 4) S.1 S.2.1 dX7_allPoints_27 (by decide) ?_
        exact ih _ _ _ _ _ hR hS _ (lv_sub hl [2, 1, 0] rfl) hF
  unfold fX7_allPoints at hF
  refine lv_iconst (v := 0) S.1 S.2.1 dX7_allPoints_0 (by decide) ?_
  refine lv_istore_n (lv' := [(1, .int 0), (0, .ref (g.1 26 0))]) S.1 S.2.1 dX7_allPoints_1 rfl hl (by decide) rfl (fun ls hl => ?_)
  refine lv_iconst (v := 0) S.1 S.2.1 dX7_allPoints_2 (by decide) ?_
  refine lv_istore_n (lv' := [(2, .int 0), (1, .int 0), (0, .ref (g.1 26 0))]) S.1 S.2.1 dX7_allPoints_3 rfl hl (by decide) rfl (fun ls hl => ?_)
  refine L4 _ (fun M25 v26 v27 H locs hR hS ls hl hF => ?_) _ _ _ _ _ _ hR hS _ (lv_sub hl [2, 1, 0] rfl) hF
  refine lv_iload_n S.1 S.2.1 dX7_allPoints_30 rfl (lv_at hl 1 rfl) ?_
  exact z_iret S hr hlk hR hS hF dX7_allPoints_31
theorem hX7_count : yX7_count.cls = RX7 ∧ yX7_count.cls ≠ "java/lang/invoke/MethodHandle" ∧ yX7_count.cls ≠ "java/lang/invoke/VarHandle" ∧ (parseMethodDescriptor yX7_count.desc).map (fun d => d.parameters.length) = some 1 := by decide +kernel
theorem oX7_count : Cond.instanceMethod yX7_count ∈ zT ∧ Cond.selects RX7 yX7_count yX7_count ∈ zT ∧ Cond.initialized RX7 ∈ zT ∧ Cond.code yX7_count cX7_count 2 (some .int) ∈ zT := ⟨wv_X7_count, we_X7_count, wi_X7, wk_X7_count⟩
set_option maxRecDepth 100000 in
set_option maxHeartbeats 4000000 in
theorem kX7_count (l : Launch) {g : zGeo} {z : Nat} (hg : zAd g z) {M M' : zM} {v1 : Int32} {r : Int32} (hF : fX7_count M v1 = some (r, M')) : Met l yX7_count [.code yX7_count cX7_count 2 (some .int)] { frames := 4, cells := 0, slots := 0, locals := 99 } (zPc g M [.ref (g.1 26 0), .int v1]) (zQi g z r M') 0 0 (zS z) := by
  refine z_enter (cc := cX7_count) (maxL := 2) (ret := (some .int)) (by decide) rfl (Nat.le_of_ble_eq_true rfl) ?_
  intro p e s m below meth c S hr hlk hK hR hS ls hl
  have S : CallFix p m c cX7_count 2 s _ zT RX7 := S
  have hl : lv_has ls 2 [(0, .ref (g.1 26 0)), (1, .int v1)] := hl
  unfold fX7_count at hF
  refine lv_iload_n S.1 S.2.1 dX7_count_0 rfl (lv_at hl 1 rfl) ?_
  by_cases hc0 : v1 = 0
  · replace hF := z_ct hF hc0
    refine lv_tableIn (tgt := 56) S.1 S.2.1 dX7_count_1 (by rw [hc0]; decide) (by rw [hc0]; decide) (by rw [hc0]; rfl) (by decide) ?_
    refine lv_aload_n S.1 S.2.1 dX7_count_56 rfl (lv_at hl 0 rfl) ?_
    refine z_get (k := 26) (i := 0) (f := 0) (v := .ref (g.1 27 0)) S hK hR (by decide) rfl rfl (by decide) wf_X7_7 rfl dX7_count_57 ?_
    refine lv_iconst (v := 0) S.1 S.2.1 dX7_count_60 (by decide) ?_
    refine z_iald (k := 27) (i := 0) (n := 268) S hK hR hF (by decide) rfl dX7_count_61 (fun hF => ?_)
    exact z_iret S hr hlk hR hS hF dX7_count_62
  replace hF := z_cf hF hc0
  by_cases hc1 : v1 = 1
  · replace hF := z_ct hF hc1
    refine lv_tableIn (tgt := 63) S.1 S.2.1 dX7_count_1 (by rw [hc1]; decide) (by rw [hc1]; decide) (by rw [hc1]; rfl) (by decide) ?_
    refine lv_aload_n S.1 S.2.1 dX7_count_63 rfl (lv_at hl 0 rfl) ?_
    refine z_goi hS hF (fun _ _ ho => va_runV (C := RX7) (n := 0) (As := []) (rest := []) S (kX7_inTheAir l hg ho) (cwV 0 S.2.2.2.2 (zgV wm_X7_135 oX7_inTheAir) rfl rfl rfl hX7_inTheAir ⟨Nat.le_of_ble_eq_true rfl, Nat.le_of_ble_eq_true rfl⟩) ⟨zPc_blind, z_recv hK hR (by decide) rfl rfl, z_pre hK hR⟩ rfl rfl hl.1 rfl (lv_room (Nat.le_of_ble_eq_true rfl)) dX7_count_64 ⟨Nat.zero_le _, Nat.zero_le _⟩) (fun r22 M21 H locs hR hS hF => ?_)
    exact z_iret S hr hlk hR hS hF dX7_count_67
  replace hF := z_cf hF hc1
  by_cases hc2 : v1 = 2
  · replace hF := z_ct hF hc2
    refine lv_tableIn (tgt := 68) S.1 S.2.1 dX7_count_1 (by rw [hc2]; decide) (by rw [hc2]; decide) (by rw [hc2]; rfl) (by decide) ?_
    refine lv_aload_n S.1 S.2.1 dX7_count_68 rfl (lv_at hl 0 rfl) ?_
    refine z_goi hS hF (fun _ _ ho => va_runV (C := RX7) (n := 0) (As := []) (rest := []) S (kX7_crossingsMany l hg ho) (cwV 0 S.2.2.2.2 (zgV wm_X7_139 oX7_crossingsMany) rfl rfl rfl hX7_crossingsMany ⟨Nat.le_of_ble_eq_true rfl, Nat.le_of_ble_eq_true rfl⟩) ⟨zPc_blind, z_recv hK hR (by decide) rfl rfl, z_pre hK hR⟩ rfl rfl hl.1 rfl (lv_room (Nat.le_of_ble_eq_true rfl)) dX7_count_69 ⟨Nat.zero_le _, Nat.zero_le _⟩) (fun r24 M23 H locs hR hS hF => ?_)
    exact z_iret S hr hlk hR hS hF dX7_count_72
  replace hF := z_cf hF hc2
  by_cases hc3 : v1 = 3
  · replace hF := z_ct hF hc3
    refine lv_tableIn (tgt := 73) S.1 S.2.1 dX7_count_1 (by rw [hc3]; decide) (by rw [hc3]; decide) (by rw [hc3]; rfl) (by decide) ?_
    refine lv_aload_n S.1 S.2.1 dX7_count_73 rfl (lv_at hl 0 rfl) ?_
    refine z_get (k := 26) (i := 0) (f := 0) (v := .ref (g.1 27 0)) S hK hR (by decide) rfl rfl (by decide) wf_X7_7 rfl dX7_count_74 ?_
    refine lv_iconst (v := 2) S.1 S.2.1 dX7_count_77 (by decide) ?_
    refine z_iald (k := 27) (i := 0) (n := 268) S hK hR hF (by decide) rfl dX7_count_78 (fun hF => ?_)
    exact z_iret S hr hlk hR hS hF dX7_count_79
  replace hF := z_cf hF hc3
  by_cases hc4 : v1 = 4
  · replace hF := z_ct hF hc4
    refine lv_tableIn (tgt := 80) S.1 S.2.1 dX7_count_1 (by rw [hc4]; decide) (by rw [hc4]; decide) (by rw [hc4]; rfl) (by decide) ?_
    refine lv_aload_n S.1 S.2.1 dX7_count_80 rfl (lv_at hl 0 rfl) ?_
    refine z_get (k := 26) (i := 0) (f := 0) (v := .ref (g.1 27 0)) S hK hR (by decide) rfl rfl (by decide) wf_X7_7 rfl dX7_count_81 ?_
    refine lv_iconst (v := 1) S.1 S.2.1 dX7_count_84 (by decide) ?_
    refine z_iald (k := 27) (i := 0) (n := 268) S hK hR hF (by decide) rfl dX7_count_85 (fun hF => ?_)
    exact z_iret S hr hlk hR hS hF dX7_count_86
  replace hF := z_cf hF hc4
  by_cases hc5 : v1 = 5
  · replace hF := z_ct hF hc5
    refine lv_tableIn (tgt := 87) S.1 S.2.1 dX7_count_1 (by rw [hc5]; decide) (by rw [hc5]; decide) (by rw [hc5]; rfl) (by decide) ?_
    refine lv_aload_n S.1 S.2.1 dX7_count_87 rfl (lv_at hl 0 rfl) ?_
    refine z_goi hS hF (fun _ _ ho => va_runV (C := RX7) (n := 0) (As := []) (rest := []) S (kX7_leader l hg ho) (cwV 0 S.2.2.2.2 (zgV wm_X7_142 oX7_leader) rfl rfl rfl hX7_leader ⟨Nat.le_of_ble_eq_true rfl, Nat.le_of_ble_eq_true rfl⟩) ⟨zPc_blind, z_recv hK hR (by decide) rfl rfl, z_pre hK hR⟩ rfl rfl hl.1 rfl (lv_room (Nat.le_of_ble_eq_true rfl)) dX7_count_88 ⟨Nat.zero_le _, Nat.zero_le _⟩) (fun r26 M25 H locs hR hS hF => ?_)
    exact z_iret S hr hlk hR hS hF dX7_count_91
  replace hF := z_cf hF hc5
  by_cases hc6 : v1 = 6
  · replace hF := z_ct hF hc6
    refine lv_tableIn (tgt := 92) S.1 S.2.1 dX7_count_1 (by rw [hc6]; decide) (by rw [hc6]; decide) (by rw [hc6]; rfl) (by decide) ?_
    refine lv_aload_n S.1 S.2.1 dX7_count_92 rfl (lv_at hl 0 rfl) ?_
    refine z_goi hS hF (fun _ _ ho => va_runV (C := RX7) (n := 0) (As := []) (rest := []) S (kX7_allPoints l hg ho) (cwV 0 S.2.2.2.2 (zgV wm_X7_145 oX7_allPoints) rfl rfl rfl hX7_allPoints ⟨Nat.le_of_ble_eq_true rfl, Nat.le_of_ble_eq_true rfl⟩) ⟨zPc_blind, z_recv hK hR (by decide) rfl rfl, z_pre hK hR⟩ rfl rfl hl.1 rfl (lv_room (Nat.le_of_ble_eq_true rfl)) dX7_count_93 ⟨Nat.zero_le _, Nat.zero_le _⟩) (fun r28 M27 H locs hR hS hF => ?_)
    exact z_iret S hr hlk hR hS hF dX7_count_96
  replace hF := z_cf hF hc6
  by_cases hc7 : v1 = 7
  · replace hF := z_ct hF hc7
    refine lv_tableIn (tgt := 97) S.1 S.2.1 dX7_count_1 (by rw [hc7]; decide) (by rw [hc7]; decide) (by rw [hc7]; rfl) (by decide) ?_
    refine lv_aload_n S.1 S.2.1 dX7_count_97 rfl (lv_at hl 0 rfl) ?_
    refine z_get (k := 26) (i := 0) (f := 0) (v := .ref (g.1 27 0)) S hK hR (by decide) rfl rfl (by decide) wf_X7_7 rfl dX7_count_98 ?_
    refine lv_iconst (v := 3) S.1 S.2.1 dX7_count_101 (by decide) ?_
    refine z_iald (k := 27) (i := 0) (n := 268) S hK hR hF (by decide) rfl dX7_count_102 (fun hF => ?_)
    exact z_iret S hr hlk hR hS hF dX7_count_103
  replace hF := z_cf hF hc7
  by_cases hc8 : v1 = 8
  · replace hF := z_ct hF hc8
    refine lv_tableIn (tgt := 104) S.1 S.2.1 dX7_count_1 (by rw [hc8]; decide) (by rw [hc8]; decide) (by rw [hc8]; rfl) (by decide) ?_
    refine lv_aload_n S.1 S.2.1 dX7_count_104 rfl (lv_at hl 0 rfl) ?_
    refine z_get (k := 26) (i := 0) (f := 7) (v := .int (M 26 0 7)) S hK hR (by decide) rfl rfl (by decide) wf_X7_148 rfl dX7_count_105 ?_
    exact z_iret S hr hlk hR hS hF dX7_count_108
  replace hF := z_cf hF hc8
  by_cases hc9 : v1 = 9
  · replace hF := z_ct hF hc9
    refine lv_tableIn (tgt := 109) S.1 S.2.1 dX7_count_1 (by rw [hc9]; decide) (by rw [hc9]; decide) (by rw [hc9]; rfl) (by decide) ?_
    refine lv_aload_n S.1 S.2.1 dX7_count_109 rfl (lv_at hl 0 rfl) ?_
    refine z_get (k := 26) (i := 0) (f := 3) (v := .int (M 26 0 3)) S hK hR (by decide) rfl rfl (by decide) wf_X7_31 rfl dX7_count_110 ?_
    exact z_iret S hr hlk hR hS hF dX7_count_113
  replace hF := z_cf hF hc9
  refine lv_tableOut (tgt := 114) S.1 S.2.1 dX7_count_1 (by have hn0 := z_ne hc0 (n := 0) rfl; have hn1 := z_ne hc1 (n := 1) rfl; have hn2 := z_ne hc2 (n := 2) rfl; have hn3 := z_ne hc3 (n := 3) rfl; have hn4 := z_ne hc4 (n := 4) rfl; have hn5 := z_ne hc5 (n := 5) rfl; have hn6 := z_ne hc6 (n := 6) rfl; have hn7 := z_ne hc7 (n := 7) rfl; have hn8 := z_ne hc8 (n := 8) rfl; have hn9 := z_ne hc9 (n := 9) rfl; omega) (by decide) ?_
  refine lv_bipush (v := (-2)) S.1 S.2.1 dX7_count_114 (by decide) ?_
  exact z_iret S hr hlk hR hS hF dX7_count_116
theorem hX7_ifPassed : yX7_ifPassed.cls = RX7 ∧ yX7_ifPassed.cls ≠ "java/lang/invoke/MethodHandle" ∧ yX7_ifPassed.cls ≠ "java/lang/invoke/VarHandle" ∧ (parseMethodDescriptor yX7_ifPassed.desc).map (fun d => d.parameters.length) = some 2 := by decide +kernel
theorem oX7_ifPassed : Cond.instanceMethod yX7_ifPassed ∈ zT ∧ Cond.selects RX7 yX7_ifPassed yX7_ifPassed ∈ zT ∧ Cond.initialized RX7 ∈ zT ∧ Cond.code yX7_ifPassed cX7_ifPassed 6 (some .int) ∈ zT := ⟨wv_X7_ifPassed, we_X7_ifPassed, wi_X7, wk_X7_ifPassed⟩
set_option maxRecDepth 100000 in
set_option maxHeartbeats 4000000 in
theorem kX7_ifPassed (l : Launch) {g : zGeo} {z : Nat} (hg : zAd g z) {M M' : zM} {v1 : Int32} {v2 : Int32} {r : Int32} (hF : fX7_ifPassed M v1 v2 = some (r, M')) : Met l yX7_ifPassed [.code yX7_ifPassed cX7_ifPassed 6 (some .int)] { frames := 6, cells := 0, slots := 0, locals := 142 } (zPc g M [.ref (g.1 26 0), .int v1, .int v2]) (zQi g z r M') 0 0 (zS z) := by
  refine z_enter (cc := cX7_ifPassed) (maxL := 6) (ret := (some .int)) (by decide) rfl (Nat.le_of_ble_eq_true rfl) ?_
  intro p e s m below meth c S hr hlk hK hR hS ls hl
  have S : CallFix p m c cX7_ifPassed 6 s _ zT RX7 := S
  have hl : lv_has ls 6 [(0, .ref (g.1 26 0)), (1, .int v1), (2, .int v2)] := hl
  unfold fX7_ifPassed at hF
  refine lv_iload_n S.1 S.2.1 dX7_ifPassed_0 rfl (lv_at hl 1 rfl) ?_
  refine lv_iconst (v := 1) S.1 S.2.1 dX7_ifPassed_1 (by decide) ?_
  refine lv_sipush (v := 200) S.1 S.2.1 dX7_ifPassed_2 (by decide) ?_
  refine z_goi hS hF (fun _ _ ho => va_runS (n := 3) (As := [.int v1, .int 1, .int 200]) (rest := []) S (kX7_within l hg ho) (va_cwS 3 S.2.2.2.2 (zgS wm_X7_39 oX7_within) rfl rfl rfl hX7_within.2 ⟨Nat.le_of_ble_eq_true rfl, Nat.le_of_ble_eq_true rfl⟩) ⟨zPc_blind, z_pre hK hR⟩ rfl rfl hl.1 rfl (lv_room (Nat.le_of_ble_eq_true rfl)) dX7_ifPassed_5 ⟨Nat.zero_le _, Nat.zero_le _⟩) (fun r22 M21 H locs hR hS hF => ?_)
  refine lv_if_eq (tgt := 20) S.1 S.2.1 dX7_ifPassed_8 (by decide) (fun hc => ?_) (fun hc => ?_)
  · replace hF := z_ct hF hc
    refine lv_bipush (v := (-2)) S.1 S.2.1 dX7_ifPassed_20 (by decide) ?_
    exact z_iret S hr hlk hR hS hF dX7_ifPassed_22
  · replace hF := z_cf hF hc
    refine lv_iload_n S.1 S.2.1 dX7_ifPassed_11 rfl (lv_at hl 2 rfl) ?_
    refine lv_iconst (v := 0) S.1 S.2.1 dX7_ifPassed_12 (by decide) ?_
    refine lv_iconst (v := 2) S.1 S.2.1 dX7_ifPassed_13 (by decide) ?_
    refine z_goi hS hF (fun _ _ ho => va_runS (n := 3) (As := [.int v2, .int 0, .int 2]) (rest := []) S (kX7_within l hg ho) (va_cwS 3 S.2.2.2.2 (zgS wm_X7_39 oX7_within) rfl rfl rfl hX7_within.2 ⟨Nat.le_of_ble_eq_true rfl, Nat.le_of_ble_eq_true rfl⟩) ⟨zPc_blind, z_pre hK hR⟩ rfl rfl hl.1 rfl (lv_room (Nat.le_of_ble_eq_true rfl)) dX7_ifPassed_14 ⟨Nat.zero_le _, Nat.zero_le _⟩) (fun r24 M23 H locs hR hS hF => ?_)
    refine lv_if_ne (tgt := 23) S.1 S.2.1 dX7_ifPassed_17 (by decide) (fun hc => ?_) (fun hc => ?_)
    · replace hF := z_cf hF hc
      refine lv_aload_n S.1 S.2.1 dX7_ifPassed_23 rfl (lv_at hl 0 rfl) ?_
      refine z_get (k := 26) (i := 0) (f := 0) (v := .ref (g.1 27 0)) S hK hR (by decide) rfl rfl (by decide) wf_X7_7 rfl dX7_ifPassed_24 ?_
      refine lv_iconst (v := 0) S.1 S.2.1 dX7_ifPassed_27 (by decide) ?_
      refine lv_aload_n S.1 S.2.1 dX7_ifPassed_28 rfl (lv_at hl 0 rfl) ?_
      refine z_get (k := 26) (i := 0) (f := 1) (v := .ref (g.1 28 0)) S hK hR (by decide) rfl rfl (by decide) wf_X7_13 rfl dX7_ifPassed_29 ?_
      refine lv_iconst (v := 0) S.1 S.2.1 dX7_ifPassed_32 (by decide) ?_
      refine z_gov hS hF (fun _ _ ho => va_runS (n := 4) (As := [.ref (g.1 27 0), .int 0, .ref (g.1 28 0), .int 0]) (rest := []) S (kX7_moves l hg (by decide) rfl (by decide) rfl ho) (va_cwS 4 S.2.2.2.2 (zgS wm_X7_35 oX7_moves) rfl rfl rfl hX7_moves.2 ⟨Nat.le_of_ble_eq_true rfl, Nat.le_of_ble_eq_true rfl⟩) ⟨zPc_blind, z_pre hK hR⟩ rfl rfl hl.1 rfl (lv_room (Nat.le_of_ble_eq_true rfl)) dX7_ifPassed_33 ⟨Nat.zero_le _, Nat.zero_le _⟩) (fun M25 H locs hR hS hF => ?_)
      refine lv_aload_n S.1 S.2.1 dX7_ifPassed_36 rfl (lv_at hl 0 rfl) ?_
      refine z_goi hS hF (fun _ _ ho => va_runV (C := RX7) (n := 0) (As := []) (rest := []) S (kX7_allPoints l hg ho) (cwV 0 S.2.2.2.2 (zgV wm_X7_145 oX7_allPoints) rfl rfl rfl hX7_allPoints ⟨Nat.le_of_ble_eq_true rfl, Nat.le_of_ble_eq_true rfl⟩) ⟨zPc_blind, z_recv hK hR (by decide) rfl rfl, z_pre hK hR⟩ rfl rfl hl.1 rfl (lv_room (Nat.le_of_ble_eq_true rfl)) dX7_ifPassed_37 ⟨Nat.zero_le _, Nat.zero_le _⟩) (fun r27 M26 H locs hR hS hF => ?_)
      refine lv_istore_n (lv' := [(3, .int r27), (0, .ref (g.1 26 0)), (1, .int v1), (2, .int v2)]) S.1 S.2.1 dX7_ifPassed_40 rfl hl (by decide) rfl (fun ls hl => ?_)
      refine lv_aload_n S.1 S.2.1 dX7_ifPassed_41 rfl (lv_at hl 1 rfl) ?_
      refine lv_iload_n S.1 S.2.1 dX7_ifPassed_42 rfl (lv_at hl 2 rfl) ?_
      refine z_goi hS hF (fun _ _ ho => va_runV (C := RX7) (n := 1) (As := [.int v1]) (rest := []) S (kX7_passes l hg ho) (cwV 1 S.2.2.2.2 (zgV wm_X7_126 oX7_passes) rfl rfl rfl hX7_passes ⟨Nat.le_of_ble_eq_true rfl, Nat.le_of_ble_eq_true rfl⟩) ⟨zPc_blind, z_recv hK hR (by decide) rfl rfl, z_pre hK hR⟩ rfl rfl hl.1 rfl (lv_room (Nat.le_of_ble_eq_true rfl)) dX7_ifPassed_43 ⟨Nat.zero_le _, Nat.zero_le _⟩) (fun r29 M28 H locs hR hS hF => ?_)
      refine lv_istore (lv' := [(4, .int r29), (3, .int r27), (0, .ref (g.1 26 0)), (1, .int v1), (2, .int v2)]) S.1 S.2.1 dX7_ifPassed_46 hl (by decide) rfl (fun ls hl => ?_)
      refine lv_iload_n S.1 S.2.1 dX7_ifPassed_48 rfl (lv_at hl 4 rfl) ?_
      refine lv_if_ne (tgt := 57) S.1 S.2.1 dX7_ifPassed_49 (by decide) (fun hc => ?_) (fun hc => ?_)
      · replace hF := z_cf hF hc
        refine lv_iload_n S.1 S.2.1 dX7_ifPassed_57 rfl (lv_at hl 4 rfl) ?_
        refine lv_iconst (v := 1) S.1 S.2.1 dX7_ifPassed_58 (by decide) ?_
        refine lv_icmp_ne (tgt := 71) S.1 S.2.1 dX7_ifPassed_59 (by decide) (fun hc => ?_) (fun hc => ?_)
        · replace hF := z_cf hF hc
          refine lv_aload_n S.1 S.2.1 dX7_ifPassed_71 rfl (lv_at hl 2 rfl) ?_
          refine z_goi hS hF (fun _ _ ho => va_runV (C := RX7) (n := 0) (As := []) (rest := []) S (kX7_crossingsMany l hg ho) (cwV 0 S.2.2.2.2 (zgV wm_X7_139 oX7_crossingsMany) rfl rfl rfl hX7_crossingsMany ⟨Nat.le_of_ble_eq_true rfl, Nat.le_of_ble_eq_true rfl⟩) ⟨zPc_blind, z_recv hK hR (by decide) rfl rfl, z_pre hK hR⟩ rfl rfl hl.1 rfl (lv_room (Nat.le_of_ble_eq_true rfl)) dX7_ifPassed_72 ⟨Nat.zero_le _, Nat.zero_le _⟩) (fun r31 M30 H locs hR hS hF => ?_)
          refine lv_istore (lv' := [(5, .int r31), (4, .int r29), (3, .int r27), (0, .ref (g.1 26 0)), (1, .int v1), (2, .int v2)]) S.1 S.2.1 dX7_ifPassed_75 hl (by decide) rfl (fun ls hl => ?_)
          refine lv_aload_n S.1 S.2.1 dX7_ifPassed_77 rfl (lv_at hl 3 rfl) ?_
          refine z_get (k := 26) (i := 0) (f := 1) (v := .ref (g.1 28 0)) S hK hR (by decide) rfl rfl (by decide) wf_X7_13 rfl dX7_ifPassed_78 ?_
          refine lv_iconst (v := 0) S.1 S.2.1 dX7_ifPassed_81 (by decide) ?_
          refine lv_aload_n S.1 S.2.1 dX7_ifPassed_82 rfl (lv_at hl 3 rfl) ?_
          refine z_get (k := 26) (i := 0) (f := 0) (v := .ref (g.1 27 0)) S hK hR (by decide) rfl rfl (by decide) wf_X7_7 rfl dX7_ifPassed_83 ?_
          refine lv_iconst (v := 0) S.1 S.2.1 dX7_ifPassed_86 (by decide) ?_
          refine z_gov hS hF (fun _ _ ho => va_runS (n := 4) (As := [.ref (g.1 28 0), .int 0, .ref (g.1 27 0), .int 0]) (rest := []) S (kX7_moves l hg (by decide) rfl (by decide) rfl ho) (va_cwS 4 S.2.2.2.2 (zgS wm_X7_35 oX7_moves) rfl rfl rfl hX7_moves.2 ⟨Nat.le_of_ble_eq_true rfl, Nat.le_of_ble_eq_true rfl⟩) ⟨zPc_blind, z_pre hK hR⟩ rfl rfl hl.1 rfl (lv_room (Nat.le_of_ble_eq_true rfl)) dX7_ifPassed_87 ⟨Nat.zero_le _, Nat.zero_le _⟩) (fun M32 H locs hR hS hF => ?_)
          refine lv_iload S.1 S.2.1 dX7_ifPassed_90 (lv_at hl 0 rfl) ?_
          exact z_iret S hr hlk hR hS hF dX7_ifPassed_92
        · replace hF := z_ct hF hc
          refine lv_aload_n S.1 S.2.1 dX7_ifPassed_62 rfl (lv_at hl 2 rfl) ?_
          refine z_goi hS hF (fun _ _ ho => va_runV (C := RX7) (n := 0) (As := []) (rest := []) S (kX7_allPoints l hg ho) (cwV 0 S.2.2.2.2 (zgV wm_X7_145 oX7_allPoints) rfl rfl rfl hX7_allPoints ⟨Nat.le_of_ble_eq_true rfl, Nat.le_of_ble_eq_true rfl⟩) ⟨zPc_blind, z_recv hK hR (by decide) rfl rfl, z_pre hK hR⟩ rfl rfl hl.1 rfl (lv_room (Nat.le_of_ble_eq_true rfl)) dX7_ifPassed_63 ⟨Nat.zero_le _, Nat.zero_le _⟩) (fun r34 M33 H locs hR hS hF => ?_)
          refine lv_iload_n S.1 S.2.1 dX7_ifPassed_66 rfl (lv_at hl 1 rfl) ?_
          refine lv_isub S.1 S.2.1 dX7_ifPassed_67 ?_
          refine lv_goto (tgt := 75) S.1 S.2.1 dX7_ifPassed_68 (by decide) ?_
          refine z_nm hF (fun v35 hF => ?_)
          refine lv_istore (lv' := [(5, .int v35), (4, .int r29), (3, .int r27), (0, .ref (g.1 26 0)), (1, .int v1), (2, .int v2)]) S.1 S.2.1 dX7_ifPassed_75 hl (by decide) rfl (fun ls hl => ?_)
          refine lv_aload_n S.1 S.2.1 dX7_ifPassed_77 rfl (lv_at hl 3 rfl) ?_
          refine z_get (k := 26) (i := 0) (f := 1) (v := .ref (g.1 28 0)) S hK hR (by decide) rfl rfl (by decide) wf_X7_13 rfl dX7_ifPassed_78 ?_
          refine lv_iconst (v := 0) S.1 S.2.1 dX7_ifPassed_81 (by decide) ?_
          refine lv_aload_n S.1 S.2.1 dX7_ifPassed_82 rfl (lv_at hl 3 rfl) ?_
          refine z_get (k := 26) (i := 0) (f := 0) (v := .ref (g.1 27 0)) S hK hR (by decide) rfl rfl (by decide) wf_X7_7 rfl dX7_ifPassed_83 ?_
          refine lv_iconst (v := 0) S.1 S.2.1 dX7_ifPassed_86 (by decide) ?_
          refine z_gov hS hF (fun _ _ ho => va_runS (n := 4) (As := [.ref (g.1 28 0), .int 0, .ref (g.1 27 0), .int 0]) (rest := []) S (kX7_moves l hg (by decide) rfl (by decide) rfl ho) (va_cwS 4 S.2.2.2.2 (zgS wm_X7_35 oX7_moves) rfl rfl rfl hX7_moves.2 ⟨Nat.le_of_ble_eq_true rfl, Nat.le_of_ble_eq_true rfl⟩) ⟨zPc_blind, z_pre hK hR⟩ rfl rfl hl.1 rfl (lv_room (Nat.le_of_ble_eq_true rfl)) dX7_ifPassed_87 ⟨Nat.zero_le _, Nat.zero_le _⟩) (fun M36 H locs hR hS hF => ?_)
          refine lv_iload S.1 S.2.1 dX7_ifPassed_90 (lv_at hl 0 rfl) ?_
          exact z_iret S hr hlk hR hS hF dX7_ifPassed_92
      · replace hF := z_ct hF hc
        refine lv_iload S.1 S.2.1 dX7_ifPassed_52 (lv_at hl 0 rfl) ?_
        refine lv_goto (tgt := 75) S.1 S.2.1 dX7_ifPassed_54 (by decide) ?_
        refine lv_istore (lv' := [(5, .int r29), (4, .int r29), (3, .int r27), (0, .ref (g.1 26 0)), (1, .int v1), (2, .int v2)]) S.1 S.2.1 dX7_ifPassed_75 hl (by decide) rfl (fun ls hl => ?_)
        refine lv_aload_n S.1 S.2.1 dX7_ifPassed_77 rfl (lv_at hl 3 rfl) ?_
        refine z_get (k := 26) (i := 0) (f := 1) (v := .ref (g.1 28 0)) S hK hR (by decide) rfl rfl (by decide) wf_X7_13 rfl dX7_ifPassed_78 ?_
        refine lv_iconst (v := 0) S.1 S.2.1 dX7_ifPassed_81 (by decide) ?_
        refine lv_aload_n S.1 S.2.1 dX7_ifPassed_82 rfl (lv_at hl 3 rfl) ?_
        refine z_get (k := 26) (i := 0) (f := 0) (v := .ref (g.1 27 0)) S hK hR (by decide) rfl rfl (by decide) wf_X7_7 rfl dX7_ifPassed_83 ?_
        refine lv_iconst (v := 0) S.1 S.2.1 dX7_ifPassed_86 (by decide) ?_
        refine z_gov hS hF (fun _ _ ho => va_runS (n := 4) (As := [.ref (g.1 28 0), .int 0, .ref (g.1 27 0), .int 0]) (rest := []) S (kX7_moves l hg (by decide) rfl (by decide) rfl ho) (va_cwS 4 S.2.2.2.2 (zgS wm_X7_35 oX7_moves) rfl rfl rfl hX7_moves.2 ⟨Nat.le_of_ble_eq_true rfl, Nat.le_of_ble_eq_true rfl⟩) ⟨zPc_blind, z_pre hK hR⟩ rfl rfl hl.1 rfl (lv_room (Nat.le_of_ble_eq_true rfl)) dX7_ifPassed_87 ⟨Nat.zero_le _, Nat.zero_le _⟩) (fun M37 H locs hR hS hF => ?_)
        refine lv_iload S.1 S.2.1 dX7_ifPassed_90 (lv_at hl 0 rfl) ?_
        exact z_iret S hr hlk hR hS hF dX7_ifPassed_92
    · replace hF := z_ct hF hc
      refine lv_bipush (v := (-2)) S.1 S.2.1 dX7_ifPassed_20 (by decide) ?_
      exact z_iret S hr hlk hR hS hF dX7_ifPassed_22
theorem hX7_lowest : yX7_lowest.cls = RX7 ∧ yX7_lowest.cls ≠ "java/lang/invoke/MethodHandle" ∧ yX7_lowest.cls ≠ "java/lang/invoke/VarHandle" ∧ (parseMethodDescriptor yX7_lowest.desc).map (fun d => d.parameters.length) = some 1 := by decide +kernel
theorem oX7_lowest : Cond.static yX7_lowest ∈ zT ∧ Cond.initialized RX7 ∈ zT ∧ Cond.code yX7_lowest cX7_lowest 3 (some .int) ∈ zT := ⟨ws_X7_lowest, wi_X7, wk_X7_lowest⟩
set_option maxRecDepth 100000 in
set_option maxHeartbeats 4000000 in
theorem kX7_lowest (l : Launch) {g : zGeo} {z : Nat} (hg : zAd g z) {M M' : zM} {v0 : Int32} {r : Int32} (hF : fX7_lowest M v0 = some (r, M')) : Met l yX7_lowest [.code yX7_lowest cX7_lowest 3 (some .int)] { frames := 0, cells := 0, slots := 0, locals := 0 } (zPc g M [.int v0]) (zQi g z r M') 0 0 (zS z) := by
  refine z_enter (cc := cX7_lowest) (maxL := 3) (ret := (some .int)) (by decide) rfl (Nat.le_of_ble_eq_true rfl) ?_
  intro p e s m below meth c S hr hlk hK hR hS ls hl
  have S : CallFix p m c cX7_lowest 3 s _ zT RX7 := S
  have hl : lv_has ls 3 [(0, .int v0)] := hl
  have L5 : ∀ (k : zM → Int32 → Int32 → Option (Int32 × zM)) (a0 : Int32), (∀ (M : zM) (a1 : Int32) (a2 : Int32) (H : Heap) (locs : List Loc), zR g M H → va_S (zS z) s.heap H locs → ∀ ls : Array Slot, lv_has ls 3 [(0, .int a0), (1, .int a1), (2, .int a2)] → k M a1 a2 = some (r, M') → W p l e { frames := 0, cells := 0, slots := 0, locals := 0 } s m ([.int v0] : List Value).toArray below meth c H locs 0 0 (MQ below (zQi g z r M') ([.int v0] : List Value).toArray s 0 0 (zS z)) (F0 m 30 ls [])) → ∀ (n : Nat) (M : zM) (a1 : Int32) (a2 : Int32) (H : Heap) (locs : List Loc), zR g M H → va_S (zS z) s.heap H locs → ∀ ls : Array Slot, lv_has ls 3 [(0, .int a0), (1, .int a1), (2, .int a2)] → fX7_lowest_L5 k a0 n M a1 a2 = some (r, M') → W p l e { frames := 0, cells := 0, slots := 0, locals := 0 } s m ([.int v0] : List Value).toArray below meth c H locs 0 0 (MQ below (zQi g z r M') ([.int v0] : List Value).toArray s 0 0 (zS z)) (F0 m 5 ls []) := by
    intro k a0 hk n
    induction n with
    | zero =>
      intro M a1 a2 H locs hR hS ls hl hF
      cases hF
    | succ n ih =>
      intro M a1 a2 H locs hR hS ls hl hF
      unfold fX7_lowest_L5 at hF
      refine lv_iload_n S.1 S.2.1 dX7_lowest_5 rfl (lv_at hl 2 rfl) ?_
      refine lv_if_lt (tgt := 30) S.1 S.2.1 dX7_lowest_6 (by decide) (fun hc => ?_) (fun hc => ?_)
      · replace hF := z_ct hF hc
        exact hk _ _ _ _ _ hR hS _ (lv_sub hl [0, 1, 2] rfl) hF
      · replace hF := z_cf hF hc
        refine lv_iload_n S.1 S.2.1 dX7_lowest_9 rfl (lv_at hl 0 rfl) ?_
        refine lv_iload_n S.1 S.2.1 dX7_lowest_10 rfl (lv_at hl 2 rfl) ?_
        refine lv_ishr S.1 S.2.1 dX7_lowest_11 ?_
        refine lv_iconst (v := 1) S.1 S.2.1 dX7_lowest_12 (by decide) ?_
        refine lv_iand S.1 S.2.1 dX7_lowest_13 ?_
        refine lv_iconst (v := 1) S.1 S.2.1 dX7_lowest_14 (by decide) ?_
        refine lv_icmp_ne (tgt := 22) S.1 S.2.1 dX7_lowest_15 (by decide) (fun hc => ?_) (fun hc => ?_)
        · replace hF := z_cf hF hc
          refine lv_iload_n S.1 S.2.1 dX7_lowest_22 rfl (lv_at hl 1 rfl) ?_
          refine lv_istore_n (lv' := [(1, .int a1), (0, .int a0), (2, .int a2)]) S.1 S.2.1 dX7_lowest_23 rfl hl (by decide) rfl (fun ls hl => ?_)
          obtain ⟨v21, ev21, hF⟩ := zL_out hF
          refine lv_iinc (v := v21) (lv' := [(2, .int v21), (1, .int a1), (0, .int a0)]) S.1 S.2.1 dX7_lowest_24 hl (k := 2) rfl (by rw [← ev21]; rfl) (by decide) rfl (fun ls hl => ?_)
          refine lv_goto (tgt := 5) S.1 S.2.1 dX7_lowest_27 (by decide) ?_
          exact ih _ _ _ _ _ hR hS _ (lv_sub hl [2, 1, 0] rfl) hF
        · replace hF := z_ct hF hc
          refine lv_iload_n S.1 S.2.1 dX7_lowest_18 rfl (lv_at hl 2 rfl) ?_
          refine lv_goto (tgt := 23) S.1 S.2.1 dX7_lowest_19 (by decide) ?_
          refine lv_istore_n (lv' := [(1, .int a2), (0, .int a0), (2, .int a2)]) S.1 S.2.1 dX7_lowest_23 rfl hl (by decide) rfl (fun ls hl => ?_)
          obtain ⟨v22, ev22, hF⟩ := zL_out hF
          refine lv_iinc (v := v22) (lv' := [(2, .int v22), (1, .int a2), (0, .int a0)]) S.1 S.2.1 dX7_lowest_24 hl (k := 2) rfl (by rw [← ev22]; rfl) (by decide) rfl (fun ls hl => ?_)
          refine lv_goto (tgt := 5) S.1 S.2.1 dX7_lowest_27 (by decide) ?_
          exact ih _ _ _ _ _ hR hS _ (lv_sub hl [2, 1, 0] rfl) hF
  unfold fX7_lowest at hF
  refine lv_bipush (v := (-6)) S.1 S.2.1 dX7_lowest_0 (by decide) ?_
  refine lv_istore_n (lv' := [(1, .int (-6)), (0, .int v0)]) S.1 S.2.1 dX7_lowest_2 rfl hl (by decide) rfl (fun ls hl => ?_)
  refine lv_iconst (v := 5) S.1 S.2.1 dX7_lowest_3 (by decide) ?_
  refine lv_istore_n (lv' := [(2, .int 5), (1, .int (-6)), (0, .int v0)]) S.1 S.2.1 dX7_lowest_4 rfl hl (by decide) rfl (fun ls hl => ?_)
  refine L5 _ _ (fun M23 v24 v25 H locs hR hS ls hl hF => ?_) _ _ _ _ _ _ hR hS _ (lv_sub hl [2, 1, 0] rfl) hF
  refine lv_iload_n S.1 S.2.1 dX7_lowest_30 rfl (lv_at hl 1 rfl) ?_
  exact z_iret S hr hlk hR hS hF dX7_lowest_31
theorem hX7_firstCut : yX7_firstCut.cls = RX7 ∧ yX7_firstCut.cls ≠ "java/lang/invoke/MethodHandle" ∧ yX7_firstCut.cls ≠ "java/lang/invoke/VarHandle" ∧ (parseMethodDescriptor yX7_firstCut.desc).map (fun d => d.parameters.length) = some 1 := by decide +kernel
theorem oX7_firstCut : Cond.instanceMethod yX7_firstCut ∈ zT ∧ Cond.selects RX7 yX7_firstCut yX7_firstCut ∈ zT ∧ Cond.initialized RX7 ∈ zT ∧ Cond.code yX7_firstCut cX7_firstCut 3 (some .int) ∈ zT := ⟨wv_X7_firstCut, we_X7_firstCut, wi_X7, wk_X7_firstCut⟩
set_option maxRecDepth 100000 in
set_option maxHeartbeats 4000000 in
theorem kX7_firstCut (l : Launch) {g : zGeo} {z : Nat} (hg : zAd g z) {M M' : zM} {v1 : Int32} {r : Int32} (hF : fX7_firstCut M v1 = some (r, M')) : Met l yX7_firstCut [.code yX7_firstCut cX7_firstCut 3 (some .int)] { frames := 5, cells := 0, slots := 0, locals := 119 } (zPc g M [.ref (g.1 26 0), .int v1]) (zQi g z r M') 0 0 (zS z) := by
  refine z_enter (cc := cX7_firstCut) (maxL := 3) (ret := (some .int)) (by decide) rfl (Nat.le_of_ble_eq_true rfl) ?_
  intro p e s m below meth c S hr hlk hK hR hS ls hl
  have S : CallFix p m c cX7_firstCut 3 s _ zT RX7 := S
  have hl : lv_has ls 3 [(0, .ref (g.1 26 0)), (1, .int v1)] := hl
  have L32 : ∀ (k : zM → Int32 → Option (Int32 × zM)) (a1 : Int32), (∀ (M : zM) (a2 : Int32) (H : Heap) (locs : List Loc), zR g M H → va_S (zS z) s.heap H locs → ∀ ls : Array Slot, lv_has ls 3 [(0, .ref (g.1 26 0)), (1, .int a1), (2, .int a2)] → k M a2 = some (r, M') → W p l e { frames := 5, cells := 0, slots := 0, locals := 119 } s m ([.ref (g.1 26 0), .int v1] : List Value).toArray below meth c H locs 0 0 (MQ below (zQi g z r M') ([.ref (g.1 26 0), .int v1] : List Value).toArray s 0 0 (zS z)) (F0 m 56 ls [])) → ∀ (n : Nat) (M : zM) (a2 : Int32) (H : Heap) (locs : List Loc), zR g M H → va_S (zS z) s.heap H locs → ∀ ls : Array Slot, lv_has ls 3 [(0, .ref (g.1 26 0)), (1, .int a1), (2, .int a2)] → fX7_firstCut_L32 k a1 n M a2 = some (r, M') → W p l e { frames := 5, cells := 0, slots := 0, locals := 119 } s m ([.ref (g.1 26 0), .int v1] : List Value).toArray below meth c H locs 0 0 (MQ below (zQi g z r M') ([.ref (g.1 26 0), .int v1] : List Value).toArray s 0 0 (zS z)) (F0 m 32 ls []) := by
    intro k a1 hk n
    induction n with
    | zero =>
      intro M a2 H locs hR hS ls hl hF
      cases hF
    | succ n ih =>
      intro M a2 H locs hR hS ls hl hF
      unfold fX7_firstCut_L32 at hF
      refine lv_iload_n S.1 S.2.1 dX7_firstCut_32 rfl (lv_at hl 2 rfl) ?_
      refine lv_sipush (v := 300) S.1 S.2.1 dX7_firstCut_33 (by decide) ?_
      refine lv_icmp_ge (tgt := 56) S.1 S.2.1 dX7_firstCut_36 (by decide) (fun hc => ?_) (fun hc => ?_)
      · replace hF := z_ct hF hc
        exact hk _ _ _ _ hR hS _ (lv_sub hl [0, 1, 2] rfl) hF
      · replace hF := z_cf hF hc
        refine lv_aload_n S.1 S.2.1 dX7_firstCut_39 rfl (lv_at hl 0 rfl) ?_
        refine z_get (k := 26) (i := 0) (f := 12) (v := .int (M 26 0 12)) S hK hR (by decide) rfl rfl (by decide) wf_X7_89 rfl dX7_firstCut_40 ?_
        refine lv_if_ne (tgt := 56) S.1 S.2.1 dX7_firstCut_43 (by decide) (fun hc => ?_) (fun hc => ?_)
        · replace hF := z_cf hF hc
          exact hk _ _ _ _ hR hS _ (lv_sub hl [0, 1, 2] rfl) hF
        · replace hF := z_ct hF hc
          refine lv_aload_n S.1 S.2.1 dX7_firstCut_46 rfl (lv_at hl 0 rfl) ?_
          refine z_gov hS hF (fun _ _ ho => va_runV (C := RX7) (n := 0) (As := []) (rest := []) S (kX7_tick l hg ho) (cwV 0 S.2.2.2.2 (zgV wm_X7_108 oX7_tick) rfl rfl rfl hX7_tick ⟨Nat.le_of_ble_eq_true rfl, Nat.le_of_ble_eq_true rfl⟩) ⟨zPc_blind, z_recv hK hR (by decide) rfl rfl, z_pre hK hR⟩ rfl rfl hl.1 rfl (lv_room (Nat.le_of_ble_eq_true rfl)) dX7_firstCut_47 ⟨Nat.zero_le _, Nat.zero_le _⟩) (fun M25 H locs hR hS hF => ?_)
          obtain ⟨v26, ev26, hF⟩ := zL_out hF
          refine lv_iinc (v := v26) (lv' := [(2, .int v26), (0, .ref (g.1 26 0)), (1, .int a1)]) S.1 S.2.1 dX7_firstCut_50 hl (k := 2) rfl (by rw [← ev26]; rfl) (by decide) rfl (fun ls hl => ?_)
          refine lv_goto (tgt := 32) S.1 S.2.1 dX7_firstCut_53 (by decide) ?_
          exact ih _ _ _ _ hR hS _ (lv_sub hl [1, 2, 0] rfl) hF
  unfold fX7_firstCut at hF
  refine lv_iload_n S.1 S.2.1 dX7_firstCut_0 rfl (lv_at hl 1 rfl) ?_
  refine lv_iconst (v := 0) S.1 S.2.1 dX7_firstCut_1 (by decide) ?_
  refine lv_iconst (v := 2) S.1 S.2.1 dX7_firstCut_2 (by decide) ?_
  refine z_goi hS hF (fun _ _ ho => va_runS (n := 3) (As := [.int v1, .int 0, .int 2]) (rest := []) S (kX7_within l hg ho) (va_cwS 3 S.2.2.2.2 (zgS wm_X7_39 oX7_within) rfl rfl rfl hX7_within.2 ⟨Nat.le_of_ble_eq_true rfl, Nat.le_of_ble_eq_true rfl⟩) ⟨zPc_blind, z_pre hK hR⟩ rfl rfl hl.1 rfl (lv_room (Nat.le_of_ble_eq_true rfl)) dX7_firstCut_3 ⟨Nat.zero_le _, Nat.zero_le _⟩) (fun r22 M21 H locs hR hS hF => ?_)
  refine lv_if_ne (tgt := 12) S.1 S.2.1 dX7_firstCut_6 (by decide) (fun hc => ?_) (fun hc => ?_)
  · replace hF := z_cf hF hc
    refine lv_aload_n S.1 S.2.1 dX7_firstCut_12 rfl (lv_at hl 0 rfl) ?_
    refine z_get (k := 26) (i := 0) (f := 0) (v := .ref (g.1 27 0)) S hK hR (by decide) rfl rfl (by decide) wf_X7_7 rfl dX7_firstCut_13 ?_
    refine lv_iconst (v := 0) S.1 S.2.1 dX7_firstCut_16 (by decide) ?_
    refine lv_aload_n S.1 S.2.1 dX7_firstCut_17 rfl (lv_at hl 0 rfl) ?_
    refine z_get (k := 26) (i := 0) (f := 1) (v := .ref (g.1 28 0)) S hK hR (by decide) rfl rfl (by decide) wf_X7_13 rfl dX7_firstCut_18 ?_
    refine lv_iconst (v := 0) S.1 S.2.1 dX7_firstCut_21 (by decide) ?_
    refine z_gov hS hF (fun _ _ ho => va_runS (n := 4) (As := [.ref (g.1 27 0), .int 0, .ref (g.1 28 0), .int 0]) (rest := []) S (kX7_moves l hg (by decide) rfl (by decide) rfl ho) (va_cwS 4 S.2.2.2.2 (zgS wm_X7_35 oX7_moves) rfl rfl rfl hX7_moves.2 ⟨Nat.le_of_ble_eq_true rfl, Nat.le_of_ble_eq_true rfl⟩) ⟨zPc_blind, z_pre hK hR⟩ rfl rfl hl.1 rfl (lv_room (Nat.le_of_ble_eq_true rfl)) dX7_firstCut_22 ⟨Nat.zero_le _, Nat.zero_le _⟩) (fun M23 H locs hR hS hF => ?_)
    refine lv_iconst (v := 0) S.1 S.2.1 dX7_firstCut_25 (by decide) ?_
    refine lv_istore_n (lv' := [(2, .int 0), (0, .ref (g.1 26 0)), (1, .int v1)]) S.1 S.2.1 dX7_firstCut_26 rfl hl (by decide) rfl (fun ls hl => ?_)
    refine lv_aload_n S.1 S.2.1 dX7_firstCut_27 rfl (lv_at hl 1 rfl) ?_
    refine lv_iconst (v := 0) S.1 S.2.1 dX7_firstCut_28 (by decide) ?_
    refine z_put (k := 26) (i := 0) (f := 12) (ty := .int) S hg hK hR hS hF (by decide) rfl rfl rfl (by decide) wf_X7_89 rfl (by decide +kernel) rfl rfl (Nat.le_of_ble_eq_true rfl) dX7_firstCut_29 (fun H locs M24 hR hS hF => ?_)
    refine L32 _ _ (fun M27 v28 H locs hR hS ls hl hF => ?_) _ _ _ _ _ hR hS _ (lv_sub hl [1, 2, 0] rfl) hF
    refine lv_aload_n S.1 S.2.1 dX7_firstCut_56 rfl (lv_at hl 0 rfl) ?_
    refine z_get (k := 26) (i := 0) (f := 1) (v := .ref (g.1 28 0)) S hK hR (by decide) rfl rfl (by decide) wf_X7_13 rfl dX7_firstCut_57 ?_
    refine lv_iconst (v := 0) S.1 S.2.1 dX7_firstCut_60 (by decide) ?_
    refine lv_aload_n S.1 S.2.1 dX7_firstCut_61 rfl (lv_at hl 0 rfl) ?_
    refine z_get (k := 26) (i := 0) (f := 0) (v := .ref (g.1 27 0)) S hK hR (by decide) rfl rfl (by decide) wf_X7_7 rfl dX7_firstCut_62 ?_
    refine lv_iconst (v := 0) S.1 S.2.1 dX7_firstCut_65 (by decide) ?_
    refine z_gov hS hF (fun _ _ ho => va_runS (n := 4) (As := [.ref (g.1 28 0), .int 0, .ref (g.1 27 0), .int 0]) (rest := []) S (kX7_moves l hg (by decide) rfl (by decide) rfl ho) (va_cwS 4 S.2.2.2.2 (zgS wm_X7_35 oX7_moves) rfl rfl rfl hX7_moves.2 ⟨Nat.le_of_ble_eq_true rfl, Nat.le_of_ble_eq_true rfl⟩) ⟨zPc_blind, z_pre hK hR⟩ rfl rfl hl.1 rfl (lv_room (Nat.le_of_ble_eq_true rfl)) dX7_firstCut_66 ⟨Nat.zero_le _, Nat.zero_le _⟩) (fun M29 H locs hR hS hF => ?_)
    refine lv_aload_n S.1 S.2.1 dX7_firstCut_69 rfl (lv_at hl 0 rfl) ?_
    refine z_get (k := 26) (i := 0) (f := 12) (v := .int (M29 26 0 12)) S hK hR (by decide) rfl rfl (by decide) wf_X7_89 rfl dX7_firstCut_70 ?_
    refine lv_if_ne (tgt := 81) S.1 S.2.1 dX7_firstCut_73 (by decide) (fun hc => ?_) (fun hc => ?_)
    · replace hF := z_cf hF hc
      refine lv_iload_n S.1 S.2.1 dX7_firstCut_81 rfl (lv_at hl 1 rfl) ?_
      refine lv_if_ne (tgt := 89) S.1 S.2.1 dX7_firstCut_82 (by decide) (fun hc => ?_) (fun hc => ?_)
      · replace hF := z_cf hF hc
        refine lv_iload_n S.1 S.2.1 dX7_firstCut_89 rfl (lv_at hl 1 rfl) ?_
        refine lv_iconst (v := 1) S.1 S.2.1 dX7_firstCut_90 (by decide) ?_
        refine lv_icmp_ne (tgt := 104) S.1 S.2.1 dX7_firstCut_91 (by decide) (fun hc => ?_) (fun hc => ?_)
        · replace hF := z_cf hF hc
          refine lv_aload_n S.1 S.2.1 dX7_firstCut_104 rfl (lv_at hl 0 rfl) ?_
          refine z_get (k := 26) (i := 0) (f := 13) (v := .int (M29 26 0 13)) S hK hR (by decide) rfl rfl (by decide) wf_X7_92 rfl dX7_firstCut_105 ?_
          exact z_iret S hr hlk hR hS hF dX7_firstCut_108
        · replace hF := z_ct hF hc
          refine lv_aload_n S.1 S.2.1 dX7_firstCut_94 rfl (lv_at hl 0 rfl) ?_
          refine z_get (k := 26) (i := 0) (f := 12) (v := .int (M29 26 0 12)) S hK hR (by decide) rfl rfl (by decide) wf_X7_89 rfl dX7_firstCut_95 ?_
          refine z_goi hS hF (fun _ _ ho => va_runS (n := 1) (As := [.int (M29 26 0 12)]) (rest := []) S (kX7_lowest l hg ho) (va_cwS 1 S.2.2.2.2 (zgS wm_X7_151 oX7_lowest) rfl rfl rfl hX7_lowest.2 ⟨Nat.le_of_ble_eq_true rfl, Nat.le_of_ble_eq_true rfl⟩) ⟨zPc_blind, z_pre hK hR⟩ rfl rfl hl.1 rfl (lv_room (Nat.le_of_ble_eq_true rfl)) dX7_firstCut_98 ⟨Nat.zero_le _, Nat.zero_le _⟩) (fun r31 M30 H locs hR hS hF => ?_)
          refine lv_goto (tgt := 108) S.1 S.2.1 dX7_firstCut_101 (by decide) ?_
          exact z_iret S hr hlk hR hS hF dX7_firstCut_108
      · replace hF := z_ct hF hc
        refine lv_iload_n S.1 S.2.1 dX7_firstCut_85 rfl (lv_at hl 2 rfl) ?_
        refine lv_goto (tgt := 108) S.1 S.2.1 dX7_firstCut_86 (by decide) ?_
        exact z_iret S hr hlk hR hS hF dX7_firstCut_108
    · replace hF := z_ct hF hc
      refine lv_bipush (v := (-6)) S.1 S.2.1 dX7_firstCut_76 (by decide) ?_
      refine lv_goto (tgt := 108) S.1 S.2.1 dX7_firstCut_78 (by decide) ?_
      exact z_iret S hr hlk hR hS hF dX7_firstCut_108
  · replace hF := z_ct hF hc
    refine lv_bipush (v := (-2)) S.1 S.2.1 dX7_firstCut_9 (by decide) ?_
    exact z_iret S hr hlk hR hS hF dX7_firstCut_11
theorem hX7_meets : yX7_meets.cls = RX7 ∧ yX7_meets.cls ≠ "java/lang/invoke/MethodHandle" ∧ yX7_meets.cls ≠ "java/lang/invoke/VarHandle" ∧ (parseMethodDescriptor yX7_meets.desc).map (fun d => d.parameters.length) = some 2 := by decide +kernel
theorem oX7_meets : Cond.instanceMethod yX7_meets ∈ zT ∧ Cond.selects RX7 yX7_meets yX7_meets ∈ zT ∧ Cond.initialized RX7 ∈ zT ∧ Cond.code yX7_meets cX7_meets 5 (some .int) ∈ zT := ⟨wv_X7_meets, we_X7_meets, wi_X7, wk_X7_meets⟩
set_option maxRecDepth 100000 in
set_option maxHeartbeats 4000000 in
theorem kX7_meets (l : Launch) {g : zGeo} {z : Nat} (hg : zAd g z) {M M' : zM} {v1 : Int32} {v2 : Int32} {r : Int32} (hF : fX7_meets M v1 v2 = some (r, M')) : Met l yX7_meets [.code yX7_meets cX7_meets 5 (some .int)] { frames := 5, cells := 0, slots := 0, locals := 119 } (zPc g M [.ref (g.1 26 0), .int v1, .int v2]) (zQi g z r M') 0 0 (zS z) := by
  refine z_enter (cc := cX7_meets) (maxL := 5) (ret := (some .int)) (by decide) rfl (Nat.le_of_ble_eq_true rfl) ?_
  intro p e s m below meth c S hr hlk hK hR hS ls hl
  have S : CallFix p m c cX7_meets 5 s _ zT RX7 := S
  have hl : lv_has ls 5 [(0, .ref (g.1 26 0)), (1, .int v1), (2, .int v2)] := hl
  have L74 : ∀ (k : zM → Int32 → Int32 → Option (Int32 × zM)) (a1 : Int32) (a2 : Int32), (∀ (M : zM) (a3 : Int32) (a4 : Int32) (H : Heap) (locs : List Loc), zR g M H → va_S (zS z) s.heap H locs → ∀ ls : Array Slot, lv_has ls 5 [(0, .ref (g.1 26 0)), (1, .int a1), (2, .int a2), (3, .int a3), (4, .int a4)] → k M a3 a4 = some (r, M') → W p l e { frames := 5, cells := 0, slots := 0, locals := 119 } s m ([.ref (g.1 26 0), .int v1, .int v2] : List Value).toArray below meth c H locs 0 0 (MQ below (zQi g z r M') ([.ref (g.1 26 0), .int v1, .int v2] : List Value).toArray s 0 0 (zS z)) (F0 m 119 ls [])) → ∀ (n : Nat) (M : zM) (a3 : Int32) (a4 : Int32) (H : Heap) (locs : List Loc), zR g M H → va_S (zS z) s.heap H locs → ∀ ls : Array Slot, lv_has ls 5 [(0, .ref (g.1 26 0)), (1, .int a1), (2, .int a2), (3, .int a3), (4, .int a4)] → fX7_meets_L74 k a1 a2 n M a3 a4 = some (r, M') → W p l e { frames := 5, cells := 0, slots := 0, locals := 119 } s m ([.ref (g.1 26 0), .int v1, .int v2] : List Value).toArray below meth c H locs 0 0 (MQ below (zQi g z r M') ([.ref (g.1 26 0), .int v1, .int v2] : List Value).toArray s 0 0 (zS z)) (F0 m 74 ls []) := by
    intro k a1 a2 hk n
    induction n with
    | zero =>
      intro M a3 a4 H locs hR hS ls hl hF
      cases hF
    | succ n ih =>
      intro M a3 a4 H locs hR hS ls hl hF
      unfold fX7_meets_L74 at hF
      refine lv_iload_n S.1 S.2.1 dX7_meets_74 rfl (lv_at hl 3 rfl) ?_
      refine lv_sipush (v := 300) S.1 S.2.1 dX7_meets_75 (by decide) ?_
      refine lv_icmp_ge (tgt := 119) S.1 S.2.1 dX7_meets_78 (by decide) (fun hc => ?_) (fun hc => ?_)
      · replace hF := z_ct hF hc
        exact hk _ _ _ _ _ hR hS _ (lv_sub hl [0, 1, 2, 3, 4] rfl) hF
      · replace hF := z_cf hF hc
        refine lv_iload S.1 S.2.1 dX7_meets_81 (lv_at hl 4 rfl) ?_
        refine lv_if_ne (tgt := 119) S.1 S.2.1 dX7_meets_83 (by decide) (fun hc => ?_) (fun hc => ?_)
        · replace hF := z_cf hF hc
          exact hk _ _ _ _ _ hR hS _ (lv_sub hl [0, 1, 2, 3, 4] rfl) hF
        · replace hF := z_ct hF hc
          refine lv_aload_n S.1 S.2.1 dX7_meets_86 rfl (lv_at hl 0 rfl) ?_
          refine z_gov hS hF (fun _ _ ho => va_runV (C := RX7) (n := 0) (As := []) (rest := []) S (kX7_tick l hg ho) (cwV 0 S.2.2.2.2 (zgV wm_X7_108 oX7_tick) rfl rfl rfl hX7_tick ⟨Nat.le_of_ble_eq_true rfl, Nat.le_of_ble_eq_true rfl⟩) ⟨zPc_blind, z_recv hK hR (by decide) rfl rfl, z_pre hK hR⟩ rfl rfl hl.1 rfl (lv_room (Nat.le_of_ble_eq_true rfl)) dX7_meets_87 ⟨Nat.zero_le _, Nat.zero_le _⟩) (fun M32 H locs hR hS hF => ?_)
          obtain ⟨v33, ev33, hF⟩ := zL_out hF
          refine lv_iinc (v := v33) (lv' := [(3, .int v33), (0, .ref (g.1 26 0)), (1, .int a1), (2, .int a2), (4, .int a4)]) S.1 S.2.1 dX7_meets_90 hl (k := 3) rfl (by rw [← ev33]; rfl) (by decide) rfl (fun ls hl => ?_)
          refine lv_aload_n S.1 S.2.1 dX7_meets_93 rfl (lv_at hl 1 rfl) ?_
          refine z_get (k := 26) (i := 0) (f := 8) (v := .ref (g.1 33 0)) S hK hR (by decide) rfl rfl (by decide) wf_X7_28 rfl dX7_meets_94 ?_
          refine lv_bipush (v := 6) S.1 S.2.1 dX7_meets_97 (by decide) ?_
          refine lv_iload_n S.1 S.2.1 dX7_meets_99 rfl (lv_at hl 2 rfl) ?_
          refine lv_imul S.1 S.2.1 dX7_meets_100 ?_
          refine lv_iload_n S.1 S.2.1 dX7_meets_101 rfl (lv_at hl 3 rfl) ?_
          refine lv_iadd S.1 S.2.1 dX7_meets_102 ?_
          refine z_iald (k := 33) (i := 0) (n := 36) S hK hR hF (by decide) rfl dX7_meets_103 (fun hF => ?_)
          refine lv_bipush (v := (-6)) S.1 S.2.1 dX7_meets_104 (by decide) ?_
          refine lv_icmp_eq (tgt := 113) S.1 S.2.1 dX7_meets_106 (by decide) (fun hc => ?_) (fun hc => ?_)
          · replace hF := z_ct hF hc
            refine lv_iconst (v := 0) S.1 S.2.1 dX7_meets_113 (by decide) ?_
            refine lv_istore (lv' := [(4, .int 0), (3, .int v33), (0, .ref (g.1 26 0)), (1, .int a1), (2, .int a2)]) S.1 S.2.1 dX7_meets_114 hl (by decide) rfl (fun ls hl => ?_)
            refine lv_goto (tgt := 74) S.1 S.2.1 dX7_meets_116 (by decide) ?_
            exact ih _ _ _ _ _ hR hS _ (lv_sub hl [2, 3, 4, 1, 0] rfl) hF
          · replace hF := z_cf hF hc
            refine lv_iconst (v := 1) S.1 S.2.1 dX7_meets_109 (by decide) ?_
            refine lv_goto (tgt := 114) S.1 S.2.1 dX7_meets_110 (by decide) ?_
            refine lv_istore (lv' := [(4, .int 1), (3, .int v33), (0, .ref (g.1 26 0)), (1, .int a1), (2, .int a2)]) S.1 S.2.1 dX7_meets_114 hl (by decide) rfl (fun ls hl => ?_)
            refine lv_goto (tgt := 74) S.1 S.2.1 dX7_meets_116 (by decide) ?_
            exact ih _ _ _ _ _ hR hS _ (lv_sub hl [2, 3, 4, 1, 0] rfl) hF
  unfold fX7_meets at hF
  refine lv_aload_n S.1 S.2.1 dX7_meets_0 rfl (lv_at hl 0 rfl) ?_
  refine lv_iload_n S.1 S.2.1 dX7_meets_1 rfl (lv_at hl 1 rfl) ?_
  refine z_goi hS hF (fun _ _ ho => va_runV (C := RX7) (n := 1) (As := [.int v1]) (rest := []) S (kX7_isKite l hg ho) (cwV 1 S.2.2.2.2 (zgV wm_X7_114 oX7_isKite) rfl rfl rfl hX7_isKite ⟨Nat.le_of_ble_eq_true rfl, Nat.le_of_ble_eq_true rfl⟩) ⟨zPc_blind, z_recv hK hR (by decide) rfl rfl, z_pre hK hR⟩ rfl rfl hl.1 rfl (lv_room (Nat.le_of_ble_eq_true rfl)) dX7_meets_2 ⟨Nat.zero_le _, Nat.zero_le _⟩) (fun r22 M21 H locs hR hS hF => ?_)
  refine lv_if_eq (tgt := 16) S.1 S.2.1 dX7_meets_5 (by decide) (fun hc => ?_) (fun hc => ?_)
  · replace hF := z_ct hF hc
    refine lv_iconst (v := (-1)) S.1 S.2.1 dX7_meets_16 (by decide) ?_
    exact z_iret S hr hlk hR hS hF dX7_meets_17
  · replace hF := z_cf hF hc
    refine lv_aload_n S.1 S.2.1 dX7_meets_8 rfl (lv_at hl 0 rfl) ?_
    refine lv_iload_n S.1 S.2.1 dX7_meets_9 rfl (lv_at hl 2 rfl) ?_
    refine z_goi hS hF (fun _ _ ho => va_runV (C := RX7) (n := 1) (As := [.int v2]) (rest := []) S (kX7_isKite l hg ho) (cwV 1 S.2.2.2.2 (zgV wm_X7_114 oX7_isKite) rfl rfl rfl hX7_isKite ⟨Nat.le_of_ble_eq_true rfl, Nat.le_of_ble_eq_true rfl⟩) ⟨zPc_blind, z_recv hK hR (by decide) rfl rfl, z_pre hK hR⟩ rfl rfl hl.1 rfl (lv_room (Nat.le_of_ble_eq_true rfl)) dX7_meets_10 ⟨Nat.zero_le _, Nat.zero_le _⟩) (fun r24 M23 H locs hR hS hF => ?_)
    refine lv_if_ne (tgt := 18) S.1 S.2.1 dX7_meets_13 (by decide) (fun hc => ?_) (fun hc => ?_)
    · replace hF := z_cf hF hc
      refine lv_iload_n S.1 S.2.1 dX7_meets_18 rfl (lv_at hl 1 rfl) ?_
      refine lv_iload_n S.1 S.2.1 dX7_meets_19 rfl (lv_at hl 2 rfl) ?_
      refine lv_icmp_ne (tgt := 26) S.1 S.2.1 dX7_meets_20 (by decide) (fun hc => ?_) (fun hc => ?_)
      · replace hF := z_cf hF hc
        refine lv_aload_n S.1 S.2.1 dX7_meets_26 rfl (lv_at hl 0 rfl) ?_
        refine lv_iload_n S.1 S.2.1 dX7_meets_27 rfl (lv_at hl 1 rfl) ?_
        refine z_goi hS hF (fun _ _ ho => va_runV (C := RX7) (n := 1) (As := [.int v1]) (rest := []) S (kX7_flies l hg ho) (cwV 1 S.2.2.2.2 (zgV wm_X7_55 oX7_flies) rfl rfl rfl hX7_flies ⟨Nat.le_of_ble_eq_true rfl, Nat.le_of_ble_eq_true rfl⟩) ⟨zPc_blind, z_recv hK hR (by decide) rfl rfl, z_pre hK hR⟩ rfl rfl hl.1 rfl (lv_room (Nat.le_of_ble_eq_true rfl)) dX7_meets_28 ⟨Nat.zero_le _, Nat.zero_le _⟩) (fun r26 M25 H locs hR hS hF => ?_)
        refine lv_if_eq (tgt := 42) S.1 S.2.1 dX7_meets_31 (by decide) (fun hc => ?_) (fun hc => ?_)
        · replace hF := z_ct hF hc
          refine lv_bipush (v := (-5)) S.1 S.2.1 dX7_meets_42 (by decide) ?_
          exact z_iret S hr hlk hR hS hF dX7_meets_44
        · replace hF := z_cf hF hc
          refine lv_aload_n S.1 S.2.1 dX7_meets_34 rfl (lv_at hl 0 rfl) ?_
          refine lv_iload_n S.1 S.2.1 dX7_meets_35 rfl (lv_at hl 2 rfl) ?_
          refine z_goi hS hF (fun _ _ ho => va_runV (C := RX7) (n := 1) (As := [.int v2]) (rest := []) S (kX7_flies l hg ho) (cwV 1 S.2.2.2.2 (zgV wm_X7_55 oX7_flies) rfl rfl rfl hX7_flies ⟨Nat.le_of_ble_eq_true rfl, Nat.le_of_ble_eq_true rfl⟩) ⟨zPc_blind, z_recv hK hR (by decide) rfl rfl, z_pre hK hR⟩ rfl rfl hl.1 rfl (lv_room (Nat.le_of_ble_eq_true rfl)) dX7_meets_36 ⟨Nat.zero_le _, Nat.zero_le _⟩) (fun r28 M27 H locs hR hS hF => ?_)
          refine lv_if_ne (tgt := 45) S.1 S.2.1 dX7_meets_39 (by decide) (fun hc => ?_) (fun hc => ?_)
          · replace hF := z_cf hF hc
            refine lv_aload_n S.1 S.2.1 dX7_meets_45 rfl (lv_at hl 0 rfl) ?_
            refine lv_iload_n S.1 S.2.1 dX7_meets_46 rfl (lv_at hl 1 rfl) ?_
            refine lv_iload_n S.1 S.2.1 dX7_meets_47 rfl (lv_at hl 2 rfl) ?_
            refine z_goi hS hF (fun _ _ ho => va_runV (C := RX7) (n := 2) (As := [.int v1, .int v2]) (rest := []) S (kX7_cross l hg ho) (cwV 2 S.2.2.2.2 (zgV wm_X7_79 oX7_cross) rfl rfl rfl hX7_cross ⟨Nat.le_of_ble_eq_true rfl, Nat.le_of_ble_eq_true rfl⟩) ⟨zPc_blind, z_recv hK hR (by decide) rfl rfl, z_pre hK hR⟩ rfl rfl hl.1 rfl (lv_room (Nat.le_of_ble_eq_true rfl)) dX7_meets_48 ⟨Nat.zero_le _, Nat.zero_le _⟩) (fun r30 M29 H locs hR hS hF => ?_)
            refine lv_if_eq (tgt := 56) S.1 S.2.1 dX7_meets_51 (by decide) (fun hc => ?_) (fun hc => ?_)
            · replace hF := z_ct hF hc
              refine lv_aload_n S.1 S.2.1 dX7_meets_56 rfl (lv_at hl 0 rfl) ?_
              refine z_get (k := 26) (i := 0) (f := 0) (v := .ref (g.1 27 0)) S hK hR (by decide) rfl rfl (by decide) wf_X7_7 rfl dX7_meets_57 ?_
              refine lv_iconst (v := 0) S.1 S.2.1 dX7_meets_60 (by decide) ?_
              refine lv_aload_n S.1 S.2.1 dX7_meets_61 rfl (lv_at hl 0 rfl) ?_
              refine z_get (k := 26) (i := 0) (f := 1) (v := .ref (g.1 28 0)) S hK hR (by decide) rfl rfl (by decide) wf_X7_13 rfl dX7_meets_62 ?_
              refine lv_iconst (v := 0) S.1 S.2.1 dX7_meets_65 (by decide) ?_
              refine z_gov hS hF (fun _ _ ho => va_runS (n := 4) (As := [.ref (g.1 27 0), .int 0, .ref (g.1 28 0), .int 0]) (rest := []) S (kX7_moves l hg (by decide) rfl (by decide) rfl ho) (va_cwS 4 S.2.2.2.2 (zgS wm_X7_35 oX7_moves) rfl rfl rfl hX7_moves.2 ⟨Nat.le_of_ble_eq_true rfl, Nat.le_of_ble_eq_true rfl⟩) ⟨zPc_blind, z_pre hK hR⟩ rfl rfl hl.1 rfl (lv_room (Nat.le_of_ble_eq_true rfl)) dX7_meets_66 ⟨Nat.zero_le _, Nat.zero_le _⟩) (fun M31 H locs hR hS hF => ?_)
              refine lv_iconst (v := 0) S.1 S.2.1 dX7_meets_69 (by decide) ?_
              refine lv_istore_n (lv' := [(3, .int 0), (0, .ref (g.1 26 0)), (1, .int v1), (2, .int v2)]) S.1 S.2.1 dX7_meets_70 rfl hl (by decide) rfl (fun ls hl => ?_)
              refine lv_iconst (v := 0) S.1 S.2.1 dX7_meets_71 (by decide) ?_
              refine lv_istore (lv' := [(4, .int 0), (3, .int 0), (0, .ref (g.1 26 0)), (1, .int v1), (2, .int v2)]) S.1 S.2.1 dX7_meets_72 hl (by decide) rfl (fun ls hl => ?_)
              refine L74 _ _ _ (fun M34 v35 v36 H locs hR hS ls hl hF => ?_) _ _ _ _ _ _ hR hS _ (lv_sub hl [2, 3, 4, 1, 0] rfl) hF
              refine lv_aload_n S.1 S.2.1 dX7_meets_119 rfl (lv_at hl 0 rfl) ?_
              refine z_get (k := 26) (i := 0) (f := 1) (v := .ref (g.1 28 0)) S hK hR (by decide) rfl rfl (by decide) wf_X7_13 rfl dX7_meets_120 ?_
              refine lv_iconst (v := 0) S.1 S.2.1 dX7_meets_123 (by decide) ?_
              refine lv_aload_n S.1 S.2.1 dX7_meets_124 rfl (lv_at hl 0 rfl) ?_
              refine z_get (k := 26) (i := 0) (f := 0) (v := .ref (g.1 27 0)) S hK hR (by decide) rfl rfl (by decide) wf_X7_7 rfl dX7_meets_125 ?_
              refine lv_iconst (v := 0) S.1 S.2.1 dX7_meets_128 (by decide) ?_
              refine z_gov hS hF (fun _ _ ho => va_runS (n := 4) (As := [.ref (g.1 28 0), .int 0, .ref (g.1 27 0), .int 0]) (rest := []) S (kX7_moves l hg (by decide) rfl (by decide) rfl ho) (va_cwS 4 S.2.2.2.2 (zgS wm_X7_35 oX7_moves) rfl rfl rfl hX7_moves.2 ⟨Nat.le_of_ble_eq_true rfl, Nat.le_of_ble_eq_true rfl⟩) ⟨zPc_blind, z_pre hK hR⟩ rfl rfl hl.1 rfl (lv_room (Nat.le_of_ble_eq_true rfl)) dX7_meets_129 ⟨Nat.zero_le _, Nat.zero_le _⟩) (fun M37 H locs hR hS hF => ?_)
              refine lv_iload S.1 S.2.1 dX7_meets_132 (lv_at hl 4 rfl) ?_
              refine lv_if_eq (tgt := 141) S.1 S.2.1 dX7_meets_134 (by decide) (fun hc => ?_) (fun hc => ?_)
              · replace hF := z_ct hF hc
                refine lv_bipush (v := (-6)) S.1 S.2.1 dX7_meets_141 (by decide) ?_
                exact z_iret S hr hlk hR hS hF dX7_meets_143
              · replace hF := z_cf hF hc
                refine lv_iload_n S.1 S.2.1 dX7_meets_137 rfl (lv_at hl 3 rfl) ?_
                refine lv_goto (tgt := 143) S.1 S.2.1 dX7_meets_138 (by decide) ?_
                exact z_iret S hr hlk hR hS hF dX7_meets_143
            · replace hF := z_cf hF hc
              refine lv_iconst (v := 0) S.1 S.2.1 dX7_meets_54 (by decide) ?_
              exact z_iret S hr hlk hR hS hF dX7_meets_55
          · replace hF := z_ct hF hc
            refine lv_bipush (v := (-5)) S.1 S.2.1 dX7_meets_42 (by decide) ?_
            exact z_iret S hr hlk hR hS hF dX7_meets_44
      · replace hF := z_ct hF hc
        refine lv_bipush (v := (-2)) S.1 S.2.1 dX7_meets_23 (by decide) ?_
        exact z_iret S hr hlk hR hS hF dX7_meets_25
    · replace hF := z_ct hF hc
      refine lv_iconst (v := (-1)) S.1 S.2.1 dX7_meets_16 (by decide) ?_
      exact z_iret S hr hlk hR hS hF dX7_meets_17
theorem hX7_getsWith : yX7_getsWith.cls = RX7 ∧ yX7_getsWith.cls ≠ "java/lang/invoke/MethodHandle" ∧ yX7_getsWith.cls ≠ "java/lang/invoke/VarHandle" ∧ (parseMethodDescriptor yX7_getsWith.desc).map (fun d => d.parameters.length) = some 4 := by decide +kernel
theorem oX7_getsWith : Cond.instanceMethod yX7_getsWith ∈ zT ∧ Cond.selects RX7 yX7_getsWith yX7_getsWith ∈ zT ∧ Cond.initialized RX7 ∈ zT ∧ Cond.code yX7_getsWith cX7_getsWith 7 (some .int) ∈ zT := ⟨wv_X7_getsWith, we_X7_getsWith, wi_X7, wk_X7_getsWith⟩
set_option maxRecDepth 100000 in
set_option maxHeartbeats 4000000 in
theorem kX7_getsWith (l : Launch) {g : zGeo} {z : Nat} (hg : zAd g z) {M M' : zM} {v1 : Int32} {v2 : Int32} {v3 : Int32} {v4 : Int32} {r : Int32} (hF : fX7_getsWith M v1 v2 v3 v4 = some (r, M')) : Met l yX7_getsWith [.code yX7_getsWith cX7_getsWith 7 (some .int)] { frames := 6, cells := 0, slots := 0, locals := 142 } (zPc g M [.ref (g.1 26 0), .int v1, .int v2, .int v3, .int v4]) (zQi g z r M') 0 0 (zS z) := by
  refine z_enter (cc := cX7_getsWith) (maxL := 7) (ret := (some .int)) (by decide) rfl (Nat.le_of_ble_eq_true rfl) ?_
  intro p e s m below meth c S hr hlk hK hR hS ls hl
  have S : CallFix p m c cX7_getsWith 7 s _ zT RX7 := S
  have hl : lv_has ls 7 [(0, .ref (g.1 26 0)), (1, .int v1), (2, .int v2), (3, .int v3), (4, .int v4)] := hl
  unfold fX7_getsWith at hF
  refine lv_aload_n S.1 S.2.1 dX7_getsWith_0 rfl (lv_at hl 0 rfl) ?_
  refine z_get (k := 26) (i := 0) (f := 0) (v := .ref (g.1 27 0)) S hK hR (by decide) rfl rfl (by decide) wf_X7_7 rfl dX7_getsWith_1 ?_
  refine lv_iconst (v := 0) S.1 S.2.1 dX7_getsWith_4 (by decide) ?_
  refine lv_aload_n S.1 S.2.1 dX7_getsWith_5 rfl (lv_at hl 0 rfl) ?_
  refine z_get (k := 26) (i := 0) (f := 1) (v := .ref (g.1 28 0)) S hK hR (by decide) rfl rfl (by decide) wf_X7_13 rfl dX7_getsWith_6 ?_
  refine lv_iconst (v := 0) S.1 S.2.1 dX7_getsWith_9 (by decide) ?_
  refine z_gov hS hF (fun _ _ ho => va_runS (n := 4) (As := [.ref (g.1 27 0), .int 0, .ref (g.1 28 0), .int 0]) (rest := []) S (kX7_moves l hg (by decide) rfl (by decide) rfl ho) (va_cwS 4 S.2.2.2.2 (zgS wm_X7_35 oX7_moves) rfl rfl rfl hX7_moves.2 ⟨Nat.le_of_ble_eq_true rfl, Nat.le_of_ble_eq_true rfl⟩) ⟨zPc_blind, z_pre hK hR⟩ rfl rfl hl.1 rfl (lv_room (Nat.le_of_ble_eq_true rfl)) dX7_getsWith_10 ⟨Nat.zero_le _, Nat.zero_le _⟩) (fun M21 H locs hR hS hF => ?_)
  refine lv_aload_n S.1 S.2.1 dX7_getsWith_13 rfl (lv_at hl 0 rfl) ?_
  refine lv_iload_n S.1 S.2.1 dX7_getsWith_14 rfl (lv_at hl 1 rfl) ?_
  refine lv_iload_n S.1 S.2.1 dX7_getsWith_15 rfl (lv_at hl 2 rfl) ?_
  refine lv_iload_n S.1 S.2.1 dX7_getsWith_16 rfl (lv_at hl 3 rfl) ?_
  refine z_goi hS hF (fun _ _ ho => va_runV (C := RX7) (n := 3) (As := [.int v1, .int v2, .int v3]) (rest := []) S (kX7_orders l hg ho) (cwV 3 S.2.2.2.2 (zgV wm_X7_123 oX7_orders) rfl rfl rfl hX7_orders ⟨Nat.le_of_ble_eq_true rfl, Nat.le_of_ble_eq_true rfl⟩) ⟨zPc_blind, z_recv hK hR (by decide) rfl rfl, z_pre hK hR⟩ rfl rfl hl.1 rfl (lv_room (Nat.le_of_ble_eq_true rfl)) dX7_getsWith_17 ⟨Nat.zero_le _, Nat.zero_le _⟩) (fun r23 M22 H locs hR hS hF => ?_)
  refine lv_pop S.1 S.2.1 dX7_getsWith_20 rfl ?_
  refine lv_aload_n S.1 S.2.1 dX7_getsWith_21 rfl (lv_at hl 0 rfl) ?_
  refine lv_iload S.1 S.2.1 dX7_getsWith_22 (lv_at hl 4 rfl) ?_
  refine z_goi hS hF (fun _ _ ho => va_runV (C := RX7) (n := 1) (As := [.int v4]) (rest := []) S (kX7_passes l hg ho) (cwV 1 S.2.2.2.2 (zgV wm_X7_126 oX7_passes) rfl rfl rfl hX7_passes ⟨Nat.le_of_ble_eq_true rfl, Nat.le_of_ble_eq_true rfl⟩) ⟨zPc_blind, z_recv hK hR (by decide) rfl rfl, z_pre hK hR⟩ rfl rfl hl.1 rfl (lv_room (Nat.le_of_ble_eq_true rfl)) dX7_getsWith_24 ⟨Nat.zero_le _, Nat.zero_le _⟩) (fun r25 M24 H locs hR hS hF => ?_)
  refine lv_istore (lv' := [(5, .int r25), (0, .ref (g.1 26 0)), (1, .int v1), (2, .int v2), (3, .int v3), (4, .int v4)]) S.1 S.2.1 dX7_getsWith_27 hl (by decide) rfl (fun ls hl => ?_)
  refine lv_aload_n S.1 S.2.1 dX7_getsWith_29 rfl (lv_at hl 1 rfl) ?_
  refine lv_iload_n S.1 S.2.1 dX7_getsWith_30 rfl (lv_at hl 2 rfl) ?_
  refine lv_bipush (v := 7) S.1 S.2.1 dX7_getsWith_31 (by decide) ?_
  refine z_goi hS hF (fun _ _ ho => va_runV (C := RX7) (n := 2) (As := [.int v1, .int 7]) (rest := []) S (kX7_part l hg ho) (cwV 2 S.2.2.2.2 (zgV wm_X7_43 oX7_part) rfl rfl rfl hX7_part ⟨Nat.le_of_ble_eq_true rfl, Nat.le_of_ble_eq_true rfl⟩) ⟨zPc_blind, z_recv hK hR (by decide) rfl rfl, z_pre hK hR⟩ rfl rfl hl.1 rfl (lv_room (Nat.le_of_ble_eq_true rfl)) dX7_getsWith_33 ⟨Nat.zero_le _, Nat.zero_le _⟩) (fun r27 M26 H locs hR hS hF => ?_)
  refine lv_iload S.1 S.2.1 dX7_getsWith_36 (lv_at hl 0 rfl) ?_
  refine lv_iload_n S.1 S.2.1 dX7_getsWith_38 rfl (lv_at hl 2 rfl) ?_
  refine lv_ishr S.1 S.2.1 dX7_getsWith_39 ?_
  refine lv_iconst (v := 1) S.1 S.2.1 dX7_getsWith_40 (by decide) ?_
  refine lv_iand S.1 S.2.1 dX7_getsWith_41 ?_
  refine lv_iconst (v := 1) S.1 S.2.1 dX7_getsWith_42 (by decide) ?_
  refine lv_icmp_ne (tgt := 50) S.1 S.2.1 dX7_getsWith_43 (by decide) (fun hc => ?_) (fun hc => ?_)
  · replace hF := z_cf hF hc
    refine lv_iconst (v := 0) S.1 S.2.1 dX7_getsWith_50 (by decide) ?_
    refine lv_isub S.1 S.2.1 dX7_getsWith_51 ?_
    refine z_nm hF (fun v28 hF => ?_)
    refine lv_istore (lv' := [(6, .int v28), (5, .int r25), (0, .ref (g.1 26 0)), (1, .int v1), (2, .int v2), (3, .int v3), (4, .int v4)]) S.1 S.2.1 dX7_getsWith_52 hl (by decide) rfl (fun ls hl => ?_)
    refine lv_aload_n S.1 S.2.1 dX7_getsWith_54 rfl (lv_at hl 2 rfl) ?_
    refine z_get (k := 26) (i := 0) (f := 1) (v := .ref (g.1 28 0)) S hK hR (by decide) rfl rfl (by decide) wf_X7_13 rfl dX7_getsWith_55 ?_
    refine lv_iconst (v := 0) S.1 S.2.1 dX7_getsWith_58 (by decide) ?_
    refine lv_aload_n S.1 S.2.1 dX7_getsWith_59 rfl (lv_at hl 2 rfl) ?_
    refine z_get (k := 26) (i := 0) (f := 0) (v := .ref (g.1 27 0)) S hK hR (by decide) rfl rfl (by decide) wf_X7_7 rfl dX7_getsWith_60 ?_
    refine lv_iconst (v := 0) S.1 S.2.1 dX7_getsWith_63 (by decide) ?_
    refine z_gov hS hF (fun _ _ ho => va_runS (n := 4) (As := [.ref (g.1 28 0), .int 0, .ref (g.1 27 0), .int 0]) (rest := []) S (kX7_moves l hg (by decide) rfl (by decide) rfl ho) (va_cwS 4 S.2.2.2.2 (zgS wm_X7_35 oX7_moves) rfl rfl rfl hX7_moves.2 ⟨Nat.le_of_ble_eq_true rfl, Nat.le_of_ble_eq_true rfl⟩) ⟨zPc_blind, z_pre hK hR⟩ rfl rfl hl.1 rfl (lv_room (Nat.le_of_ble_eq_true rfl)) dX7_getsWith_64 ⟨Nat.zero_le _, Nat.zero_le _⟩) (fun M29 H locs hR hS hF => ?_)
    refine lv_iload S.1 S.2.1 dX7_getsWith_67 (lv_at hl 0 rfl) ?_
    refine lv_aload_n S.1 S.2.1 dX7_getsWith_69 rfl (lv_at hl 2 rfl) ?_
    refine lv_iload_n S.1 S.2.1 dX7_getsWith_70 rfl (lv_at hl 3 rfl) ?_
    refine lv_bipush (v := 7) S.1 S.2.1 dX7_getsWith_71 (by decide) ?_
    refine z_goi hS hF (fun _ _ ho => va_runV (C := RX7) (n := 2) (As := [.int v1, .int 7]) (rest := [.int v28]) S (kX7_part l hg ho) (cwV 2 S.2.2.2.2 (zgV wm_X7_43 oX7_part) rfl rfl rfl hX7_part ⟨Nat.le_of_ble_eq_true rfl, Nat.le_of_ble_eq_true rfl⟩) ⟨zPc_blind, z_recv hK hR (by decide) rfl rfl, z_pre hK hR⟩ rfl rfl hl.1 rfl (lv_room (Nat.le_of_ble_eq_true rfl)) dX7_getsWith_73 ⟨Nat.zero_le _, Nat.zero_le _⟩) (fun r31 M30 H locs hR hS hF => ?_)
    refine lv_isub S.1 S.2.1 dX7_getsWith_76 ?_
    exact z_iret S hr hlk hR hS hF dX7_getsWith_77
  · replace hF := z_ct hF hc
    refine lv_iconst (v := 2) S.1 S.2.1 dX7_getsWith_46 (by decide) ?_
    refine lv_goto (tgt := 51) S.1 S.2.1 dX7_getsWith_47 (by decide) ?_
    refine lv_isub S.1 S.2.1 dX7_getsWith_51 ?_
    refine z_nm hF (fun v32 hF => ?_)
    refine lv_istore (lv' := [(6, .int v32), (5, .int r25), (0, .ref (g.1 26 0)), (1, .int v1), (2, .int v2), (3, .int v3), (4, .int v4)]) S.1 S.2.1 dX7_getsWith_52 hl (by decide) rfl (fun ls hl => ?_)
    refine lv_aload_n S.1 S.2.1 dX7_getsWith_54 rfl (lv_at hl 2 rfl) ?_
    refine z_get (k := 26) (i := 0) (f := 1) (v := .ref (g.1 28 0)) S hK hR (by decide) rfl rfl (by decide) wf_X7_13 rfl dX7_getsWith_55 ?_
    refine lv_iconst (v := 0) S.1 S.2.1 dX7_getsWith_58 (by decide) ?_
    refine lv_aload_n S.1 S.2.1 dX7_getsWith_59 rfl (lv_at hl 2 rfl) ?_
    refine z_get (k := 26) (i := 0) (f := 0) (v := .ref (g.1 27 0)) S hK hR (by decide) rfl rfl (by decide) wf_X7_7 rfl dX7_getsWith_60 ?_
    refine lv_iconst (v := 0) S.1 S.2.1 dX7_getsWith_63 (by decide) ?_
    refine z_gov hS hF (fun _ _ ho => va_runS (n := 4) (As := [.ref (g.1 28 0), .int 0, .ref (g.1 27 0), .int 0]) (rest := []) S (kX7_moves l hg (by decide) rfl (by decide) rfl ho) (va_cwS 4 S.2.2.2.2 (zgS wm_X7_35 oX7_moves) rfl rfl rfl hX7_moves.2 ⟨Nat.le_of_ble_eq_true rfl, Nat.le_of_ble_eq_true rfl⟩) ⟨zPc_blind, z_pre hK hR⟩ rfl rfl hl.1 rfl (lv_room (Nat.le_of_ble_eq_true rfl)) dX7_getsWith_64 ⟨Nat.zero_le _, Nat.zero_le _⟩) (fun M33 H locs hR hS hF => ?_)
    refine lv_iload S.1 S.2.1 dX7_getsWith_67 (lv_at hl 0 rfl) ?_
    refine lv_aload_n S.1 S.2.1 dX7_getsWith_69 rfl (lv_at hl 2 rfl) ?_
    refine lv_iload_n S.1 S.2.1 dX7_getsWith_70 rfl (lv_at hl 3 rfl) ?_
    refine lv_bipush (v := 7) S.1 S.2.1 dX7_getsWith_71 (by decide) ?_
    refine z_goi hS hF (fun _ _ ho => va_runV (C := RX7) (n := 2) (As := [.int v1, .int 7]) (rest := [.int v32]) S (kX7_part l hg ho) (cwV 2 S.2.2.2.2 (zgV wm_X7_43 oX7_part) rfl rfl rfl hX7_part ⟨Nat.le_of_ble_eq_true rfl, Nat.le_of_ble_eq_true rfl⟩) ⟨zPc_blind, z_recv hK hR (by decide) rfl rfl, z_pre hK hR⟩ rfl rfl hl.1 rfl (lv_room (Nat.le_of_ble_eq_true rfl)) dX7_getsWith_73 ⟨Nat.zero_le _, Nat.zero_le _⟩) (fun r35 M34 H locs hR hS hF => ?_)
    refine lv_isub S.1 S.2.1 dX7_getsWith_76 ?_
    exact z_iret S hr hlk hR hS hF dX7_getsWith_77
theorem hX7_bestOrder : yX7_bestOrder.cls = RX7 ∧ yX7_bestOrder.cls ≠ "java/lang/invoke/MethodHandle" ∧ yX7_bestOrder.cls ≠ "java/lang/invoke/VarHandle" ∧ (parseMethodDescriptor yX7_bestOrder.desc).map (fun d => d.parameters.length) = some 3 := by decide +kernel
theorem oX7_bestOrder : Cond.instanceMethod yX7_bestOrder ∈ zT ∧ Cond.selects RX7 yX7_bestOrder yX7_bestOrder ∈ zT ∧ Cond.initialized RX7 ∈ zT ∧ Cond.code yX7_bestOrder cX7_bestOrder 11 (some .int) ∈ zT := ⟨wv_X7_bestOrder, we_X7_bestOrder, wi_X7, wk_X7_bestOrder⟩
set_option maxRecDepth 100000 in
set_option maxHeartbeats 4000000 in
theorem kX7_bestOrder (l : Launch) {g : zGeo} {z : Nat} (hg : zAd g z) {M M' : zM} {v1 : Int32} {v2 : Int32} {v3 : Int32} {r : Int32} (hF : fX7_bestOrder M v1 v2 v3 = some (r, M')) : Met l yX7_bestOrder [.code yX7_bestOrder cX7_bestOrder 11 (some .int)] { frames := 7, cells := 0, slots := 0, locals := 168 } (zPc g M [.ref (g.1 26 0), .int v1, .int v2, .int v3]) (zQi g z r M') 0 0 (zS z) := by
  refine z_enter (cc := cX7_bestOrder) (maxL := 11) (ret := (some .int)) (by decide) rfl (Nat.le_of_ble_eq_true rfl) ?_
  intro p e s m below meth c S hr hlk hK hR hS ls hl
  have S : CallFix p m c cX7_bestOrder 11 s _ zT RX7 := S
  have hl : lv_has ls 11 [(0, .ref (g.1 26 0)), (1, .int v1), (2, .int v2), (3, .int v3)] := hl
  have L68 : ∀ (k : zM → Int32 → Int32 → Int32 → Int32 → Option (Int32 × zM)) (a1 : Int32) (a2 : Int32) (a3 : Int32) (a7 : Int32), (∀ (M : zM) (a4 : Int32) (a5 : Int32) (a6 : Int32) (a8 : Int32) (H : Heap) (locs : List Loc), zR g M H → va_S (zS z) s.heap H locs → ∀ ls : Array Slot, lv_has ls 11 [(0, .ref (g.1 26 0)), (1, .int a1), (2, .int a2), (3, .int a3), (4, .int a4), (5, .int a5), (6, .int a6), (7, .int a7), (8, .int a8)] → k M a4 a5 a6 a8 = some (r, M') → W p l e { frames := 7, cells := 0, slots := 0, locals := 168 } s m ([.ref (g.1 26 0), .int v1, .int v2, .int v3] : List Value).toArray below meth c H locs 0 0 (MQ below (zQi g z r M') ([.ref (g.1 26 0), .int v1, .int v2, .int v3] : List Value).toArray s 0 0 (zS z)) (F0 m 155 ls [])) → ∀ (n : Nat) (M : zM) (a4 : Int32) (a5 : Int32) (a6 : Int32) (a8 : Int32) (H : Heap) (locs : List Loc), zR g M H → va_S (zS z) s.heap H locs → ∀ ls : Array Slot, lv_has ls 11 [(0, .ref (g.1 26 0)), (1, .int a1), (2, .int a2), (3, .int a3), (4, .int a4), (5, .int a5), (6, .int a6), (7, .int a7), (8, .int a8)] → fX7_bestOrder_L68 k a1 a2 a3 a7 n M a4 a5 a6 a8 = some (r, M') → W p l e { frames := 7, cells := 0, slots := 0, locals := 168 } s m ([.ref (g.1 26 0), .int v1, .int v2, .int v3] : List Value).toArray below meth c H locs 0 0 (MQ below (zQi g z r M') ([.ref (g.1 26 0), .int v1, .int v2, .int v3] : List Value).toArray s 0 0 (zS z)) (F0 m 68 ls []) := by
    intro k a1 a2 a3 a7 hk n
    induction n with
    | zero =>
      intro M a4 a5 a6 a8 H locs hR hS ls hl hF
      cases hF
    | succ n ih =>
      intro M a4 a5 a6 a8 H locs hR hS ls hl hF
      unfold fX7_bestOrder_L68 at hF
      refine lv_iload S.1 S.2.1 dX7_bestOrder_68 (lv_at hl 8 rfl) ?_
      refine lv_iconst (v := 3) S.1 S.2.1 dX7_bestOrder_70 (by decide) ?_
      refine lv_icmp_gt (tgt := 155) S.1 S.2.1 dX7_bestOrder_71 (by decide) (fun hc => ?_) (fun hc => ?_)
      · replace hF := z_ct hF hc
        exact hk _ _ _ _ _ _ _ hR hS _ (lv_sub hl [0, 1, 2, 3, 4, 5, 6, 7, 8] rfl) hF
      · replace hF := z_cf hF hc
        refine lv_aload_n S.1 S.2.1 dX7_bestOrder_74 rfl (lv_at hl 0 rfl) ?_
        refine lv_iload_n S.1 S.2.1 dX7_bestOrder_75 rfl (lv_at hl 1 rfl) ?_
        refine lv_iload S.1 S.2.1 dX7_bestOrder_76 (lv_at hl 7 rfl) ?_
        refine lv_iload S.1 S.2.1 dX7_bestOrder_78 (lv_at hl 8 rfl) ?_
        refine lv_iload_n S.1 S.2.1 dX7_bestOrder_80 rfl (lv_at hl 2 rfl) ?_
        refine z_goi hS hF (fun _ _ ho => va_runV (C := RX7) (n := 4) (As := [.int a1, .int a7, .int a8, .int a2]) (rest := []) S (kX7_getsWith l hg ho) (cwV 4 S.2.2.2.2 (zgV wm_X7_154 oX7_getsWith) rfl rfl rfl hX7_getsWith ⟨Nat.le_of_ble_eq_true rfl, Nat.le_of_ble_eq_true rfl⟩) ⟨zPc_blind, z_recv hK hR (by decide) rfl rfl, z_pre hK hR⟩ rfl rfl hl.1 rfl (lv_room (Nat.le_of_ble_eq_true rfl)) dX7_bestOrder_81 ⟨Nat.zero_le _, Nat.zero_le _⟩) (fun r30 M29 H locs hR hS hF => ?_)
        refine lv_istore (lv' := [(9, .int r30), (0, .ref (g.1 26 0)), (1, .int a1), (2, .int a2), (3, .int a3), (4, .int a4), (5, .int a5), (6, .int a6), (7, .int a7), (8, .int a8)]) S.1 S.2.1 dX7_bestOrder_84 hl (by decide) rfl (fun ls hl => ?_)
        refine lv_iload S.1 S.2.1 dX7_bestOrder_86 (lv_at hl 5 rfl) ?_
        refine lv_bipush (v := (-6)) S.1 S.2.1 dX7_bestOrder_88 (by decide) ?_
        refine lv_icmp_eq (tgt := 100) S.1 S.2.1 dX7_bestOrder_90 (by decide) (fun hc => ?_) (fun hc => ?_)
        · replace hF := z_ct hF hc
          refine lv_iconst (v := 1) S.1 S.2.1 dX7_bestOrder_100 (by decide) ?_
          refine lv_goto (tgt := 105) S.1 S.2.1 dX7_bestOrder_101 (by decide) ?_
          refine lv_istore (lv' := [(10, .int 1), (9, .int r30), (0, .ref (g.1 26 0)), (1, .int a1), (2, .int a2), (3, .int a3), (4, .int a4), (5, .int a5), (6, .int a6), (7, .int a7), (8, .int a8)]) S.1 S.2.1 dX7_bestOrder_105 hl (by decide) rfl (fun ls hl => ?_)
          refine lv_iload S.1 S.2.1 dX7_bestOrder_107 (lv_at hl 0 rfl) ?_
          refine lv_if_eq (tgt := 117) S.1 S.2.1 dX7_bestOrder_109 (by decide) (fun hc => absurd hc (by decide)) (fun _ => ?_)
          refine lv_iload S.1 S.2.1 dX7_bestOrder_112 (lv_at hl 9 rfl) ?_
          refine lv_goto (tgt := 119) S.1 S.2.1 dX7_bestOrder_114 (by decide) ?_
          refine lv_istore (lv' := [(4, .int a7), (10, .int 1), (9, .int r30), (0, .ref (g.1 26 0)), (1, .int a1), (2, .int a2), (3, .int a3), (5, .int a5), (6, .int a6), (7, .int a7), (8, .int a8)]) S.1 S.2.1 dX7_bestOrder_119 hl (by decide) rfl (fun ls hl => ?_)
          refine lv_iload S.1 S.2.1 dX7_bestOrder_121 (lv_at hl 1 rfl) ?_
          refine lv_if_eq (tgt := 131) S.1 S.2.1 dX7_bestOrder_123 (by decide) (fun hc => absurd hc (by decide)) (fun _ => ?_)
          refine lv_iload S.1 S.2.1 dX7_bestOrder_126 (lv_at hl 10 rfl) ?_
          refine lv_goto (tgt := 133) S.1 S.2.1 dX7_bestOrder_128 (by decide) ?_
          refine lv_istore (lv' := [(5, .int a8), (4, .int a7), (10, .int 1), (9, .int r30), (0, .ref (g.1 26 0)), (1, .int a1), (2, .int a2), (3, .int a3), (6, .int a6), (7, .int a7), (8, .int a8)]) S.1 S.2.1 dX7_bestOrder_133 hl (by decide) rfl (fun ls hl => ?_)
          refine lv_iload S.1 S.2.1 dX7_bestOrder_135 (lv_at hl 2 rfl) ?_
          refine lv_if_eq (tgt := 145) S.1 S.2.1 dX7_bestOrder_137 (by decide) (fun hc => absurd hc (by decide)) (fun _ => ?_)
          refine lv_iload S.1 S.2.1 dX7_bestOrder_140 (lv_at hl 3 rfl) ?_
          refine lv_goto (tgt := 147) S.1 S.2.1 dX7_bestOrder_142 (by decide) ?_
          refine lv_istore (lv' := [(6, .int r30), (5, .int a8), (4, .int a7), (10, .int 1), (9, .int r30), (0, .ref (g.1 26 0)), (1, .int a1), (2, .int a2), (3, .int a3), (7, .int a7), (8, .int a8)]) S.1 S.2.1 dX7_bestOrder_147 hl (by decide) rfl (fun ls hl => ?_)
          obtain ⟨v31, ev31, hF⟩ := zL_out hF
          refine lv_iinc (v := v31) (lv' := [(8, .int v31), (6, .int r30), (5, .int a8), (4, .int a7), (10, .int 1), (9, .int r30), (0, .ref (g.1 26 0)), (1, .int a1), (2, .int a2), (3, .int a3), (7, .int a7)]) S.1 S.2.1 dX7_bestOrder_149 hl (k := 10) rfl (by rw [← ev31]; rfl) (by decide) rfl (fun ls hl => ?_)
          refine lv_goto (tgt := 68) S.1 S.2.1 dX7_bestOrder_152 (by decide) ?_
          exact ih _ _ _ _ _ _ _ hR hS _ (lv_sub hl [6, 7, 8, 9, 3, 2, 1, 10, 0] rfl) hF
        · replace hF := z_cf hF hc
          refine lv_iload S.1 S.2.1 dX7_bestOrder_93 (lv_at hl 0 rfl) ?_
          refine lv_iload S.1 S.2.1 dX7_bestOrder_95 (lv_at hl 7 rfl) ?_
          refine lv_icmp_le (tgt := 104) S.1 S.2.1 dX7_bestOrder_97 (by decide) (fun hc => ?_) (fun hc => ?_)
          · replace hF := z_ct hF hc
            refine lv_iconst (v := 0) S.1 S.2.1 dX7_bestOrder_104 (by decide) ?_
            refine lv_istore (lv' := [(10, .int 0), (9, .int r30), (0, .ref (g.1 26 0)), (1, .int a1), (2, .int a2), (3, .int a3), (4, .int a4), (5, .int a5), (6, .int a6), (7, .int a7), (8, .int a8)]) S.1 S.2.1 dX7_bestOrder_105 hl (by decide) rfl (fun ls hl => ?_)
            refine lv_iload S.1 S.2.1 dX7_bestOrder_107 (lv_at hl 0 rfl) ?_
            refine lv_if_eq (tgt := 117) S.1 S.2.1 dX7_bestOrder_109 (by decide) (fun _ => ?_) (fun hc => absurd hc (by decide))
            refine lv_iload S.1 S.2.1 dX7_bestOrder_117 (lv_at hl 6 rfl) ?_
            refine lv_istore (lv' := [(4, .int a4), (10, .int 0), (9, .int r30), (0, .ref (g.1 26 0)), (1, .int a1), (2, .int a2), (3, .int a3), (5, .int a5), (6, .int a6), (7, .int a7), (8, .int a8)]) S.1 S.2.1 dX7_bestOrder_119 hl (by decide) rfl (fun ls hl => ?_)
            refine lv_iload S.1 S.2.1 dX7_bestOrder_121 (lv_at hl 1 rfl) ?_
            refine lv_if_eq (tgt := 131) S.1 S.2.1 dX7_bestOrder_123 (by decide) (fun _ => ?_) (fun hc => absurd hc (by decide))
            refine lv_iload S.1 S.2.1 dX7_bestOrder_131 (lv_at hl 7 rfl) ?_
            refine lv_istore (lv' := [(5, .int a5), (4, .int a4), (10, .int 0), (9, .int r30), (0, .ref (g.1 26 0)), (1, .int a1), (2, .int a2), (3, .int a3), (6, .int a6), (7, .int a7), (8, .int a8)]) S.1 S.2.1 dX7_bestOrder_133 hl (by decide) rfl (fun ls hl => ?_)
            refine lv_iload S.1 S.2.1 dX7_bestOrder_135 (lv_at hl 2 rfl) ?_
            refine lv_if_eq (tgt := 145) S.1 S.2.1 dX7_bestOrder_137 (by decide) (fun _ => ?_) (fun hc => absurd hc (by decide))
            refine lv_iload S.1 S.2.1 dX7_bestOrder_145 (lv_at hl 8 rfl) ?_
            refine lv_istore (lv' := [(6, .int a6), (5, .int a5), (4, .int a4), (10, .int 0), (9, .int r30), (0, .ref (g.1 26 0)), (1, .int a1), (2, .int a2), (3, .int a3), (7, .int a7), (8, .int a8)]) S.1 S.2.1 dX7_bestOrder_147 hl (by decide) rfl (fun ls hl => ?_)
            obtain ⟨v32, ev32, hF⟩ := zL_out hF
            refine lv_iinc (v := v32) (lv' := [(8, .int v32), (6, .int a6), (5, .int a5), (4, .int a4), (10, .int 0), (9, .int r30), (0, .ref (g.1 26 0)), (1, .int a1), (2, .int a2), (3, .int a3), (7, .int a7)]) S.1 S.2.1 dX7_bestOrder_149 hl (k := 10) rfl (by rw [← ev32]; rfl) (by decide) rfl (fun ls hl => ?_)
            refine lv_goto (tgt := 68) S.1 S.2.1 dX7_bestOrder_152 (by decide) ?_
            exact ih _ _ _ _ _ _ _ hR hS _ (lv_sub hl [6, 7, 8, 9, 3, 2, 1, 10, 0] rfl) hF
          · replace hF := z_cf hF hc
            refine lv_iconst (v := 1) S.1 S.2.1 dX7_bestOrder_100 (by decide) ?_
            refine lv_goto (tgt := 105) S.1 S.2.1 dX7_bestOrder_101 (by decide) ?_
            refine lv_istore (lv' := [(10, .int 1), (9, .int r30), (0, .ref (g.1 26 0)), (1, .int a1), (2, .int a2), (3, .int a3), (4, .int a4), (5, .int a5), (6, .int a6), (7, .int a7), (8, .int a8)]) S.1 S.2.1 dX7_bestOrder_105 hl (by decide) rfl (fun ls hl => ?_)
            refine lv_iload S.1 S.2.1 dX7_bestOrder_107 (lv_at hl 0 rfl) ?_
            refine lv_if_eq (tgt := 117) S.1 S.2.1 dX7_bestOrder_109 (by decide) (fun hc => absurd hc (by decide)) (fun _ => ?_)
            refine lv_iload S.1 S.2.1 dX7_bestOrder_112 (lv_at hl 9 rfl) ?_
            refine lv_goto (tgt := 119) S.1 S.2.1 dX7_bestOrder_114 (by decide) ?_
            refine lv_istore (lv' := [(4, .int a7), (10, .int 1), (9, .int r30), (0, .ref (g.1 26 0)), (1, .int a1), (2, .int a2), (3, .int a3), (5, .int a5), (6, .int a6), (7, .int a7), (8, .int a8)]) S.1 S.2.1 dX7_bestOrder_119 hl (by decide) rfl (fun ls hl => ?_)
            refine lv_iload S.1 S.2.1 dX7_bestOrder_121 (lv_at hl 1 rfl) ?_
            refine lv_if_eq (tgt := 131) S.1 S.2.1 dX7_bestOrder_123 (by decide) (fun hc => absurd hc (by decide)) (fun _ => ?_)
            refine lv_iload S.1 S.2.1 dX7_bestOrder_126 (lv_at hl 10 rfl) ?_
            refine lv_goto (tgt := 133) S.1 S.2.1 dX7_bestOrder_128 (by decide) ?_
            refine lv_istore (lv' := [(5, .int a8), (4, .int a7), (10, .int 1), (9, .int r30), (0, .ref (g.1 26 0)), (1, .int a1), (2, .int a2), (3, .int a3), (6, .int a6), (7, .int a7), (8, .int a8)]) S.1 S.2.1 dX7_bestOrder_133 hl (by decide) rfl (fun ls hl => ?_)
            refine lv_iload S.1 S.2.1 dX7_bestOrder_135 (lv_at hl 2 rfl) ?_
            refine lv_if_eq (tgt := 145) S.1 S.2.1 dX7_bestOrder_137 (by decide) (fun hc => absurd hc (by decide)) (fun _ => ?_)
            refine lv_iload S.1 S.2.1 dX7_bestOrder_140 (lv_at hl 3 rfl) ?_
            refine lv_goto (tgt := 147) S.1 S.2.1 dX7_bestOrder_142 (by decide) ?_
            refine lv_istore (lv' := [(6, .int r30), (5, .int a8), (4, .int a7), (10, .int 1), (9, .int r30), (0, .ref (g.1 26 0)), (1, .int a1), (2, .int a2), (3, .int a3), (7, .int a7), (8, .int a8)]) S.1 S.2.1 dX7_bestOrder_147 hl (by decide) rfl (fun ls hl => ?_)
            obtain ⟨v33, ev33, hF⟩ := zL_out hF
            refine lv_iinc (v := v33) (lv' := [(8, .int v33), (6, .int r30), (5, .int a8), (4, .int a7), (10, .int 1), (9, .int r30), (0, .ref (g.1 26 0)), (1, .int a1), (2, .int a2), (3, .int a3), (7, .int a7)]) S.1 S.2.1 dX7_bestOrder_149 hl (k := 10) rfl (by rw [← ev33]; rfl) (by decide) rfl (fun ls hl => ?_)
            refine lv_goto (tgt := 68) S.1 S.2.1 dX7_bestOrder_152 (by decide) ?_
            exact ih _ _ _ _ _ _ _ hR hS _ (lv_sub hl [6, 7, 8, 9, 3, 2, 1, 10, 0] rfl) hF
  have L58 : ∀ (k : zM → Int32 → Int32 → Int32 → Int32 → Option (Int32 × zM)) (a1 : Int32) (a2 : Int32) (a3 : Int32), (∀ (M : zM) (a4 : Int32) (a5 : Int32) (a6 : Int32) (a7 : Int32) (H : Heap) (locs : List Loc), zR g M H → va_S (zS z) s.heap H locs → ∀ ls : Array Slot, lv_has ls 11 [(0, .ref (g.1 26 0)), (1, .int a1), (2, .int a2), (3, .int a3), (4, .int a4), (5, .int a5), (6, .int a6), (7, .int a7)] → k M a4 a5 a6 a7 = some (r, M') → W p l e { frames := 7, cells := 0, slots := 0, locals := 168 } s m ([.ref (g.1 26 0), .int v1, .int v2, .int v3] : List Value).toArray below meth c H locs 0 0 (MQ below (zQi g z r M') ([.ref (g.1 26 0), .int v1, .int v2, .int v3] : List Value).toArray s 0 0 (zS z)) (F0 m 161 ls [])) → ∀ (n : Nat) (M : zM) (a4 : Int32) (a5 : Int32) (a6 : Int32) (a7 : Int32) (H : Heap) (locs : List Loc), zR g M H → va_S (zS z) s.heap H locs → ∀ ls : Array Slot, lv_has ls 11 [(0, .ref (g.1 26 0)), (1, .int a1), (2, .int a2), (3, .int a3), (4, .int a4), (5, .int a5), (6, .int a6), (7, .int a7)] → fX7_bestOrder_L58 k a1 a2 a3 n M a4 a5 a6 a7 = some (r, M') → W p l e { frames := 7, cells := 0, slots := 0, locals := 168 } s m ([.ref (g.1 26 0), .int v1, .int v2, .int v3] : List Value).toArray below meth c H locs 0 0 (MQ below (zQi g z r M') ([.ref (g.1 26 0), .int v1, .int v2, .int v3] : List Value).toArray s 0 0 (zS z)) (F0 m 58 ls []) := by
    intro k a1 a2 a3 hk n
    induction n with
    | zero =>
      intro M a4 a5 a6 a7 H locs hR hS ls hl hF
      cases hF
    | succ n ih =>
      intro M a4 a5 a6 a7 H locs hR hS ls hl hF
      unfold fX7_bestOrder_L58 at hF
      refine lv_iload S.1 S.2.1 dX7_bestOrder_58 (lv_at hl 7 rfl) ?_
      refine lv_iconst (v := 3) S.1 S.2.1 dX7_bestOrder_60 (by decide) ?_
      refine lv_icmp_gt (tgt := 161) S.1 S.2.1 dX7_bestOrder_61 (by decide) (fun hc => ?_) (fun hc => ?_)
      · replace hF := z_ct hF hc
        exact hk _ _ _ _ _ _ _ hR hS _ (lv_sub hl [0, 1, 2, 3, 4, 5, 6, 7] rfl) hF
      · replace hF := z_cf hF hc
        refine lv_bipush (v := (-3)) S.1 S.2.1 dX7_bestOrder_64 (by decide) ?_
        refine lv_istore (lv' := [(8, .int (-3)), (0, .ref (g.1 26 0)), (1, .int a1), (2, .int a2), (3, .int a3), (4, .int a4), (5, .int a5), (6, .int a6), (7, .int a7)]) S.1 S.2.1 dX7_bestOrder_66 hl (by decide) rfl (fun ls hl => ?_)
        refine L68 _ _ _ _ _ (fun M34 v35 v36 v37 v38 H locs hR hS ls hl hF => ?_) _ _ _ _ _ _ _ _ hR hS _ (lv_sub hl [1, 2, 3, 4, 5, 6, 7, 8, 0] rfl) hF
        obtain ⟨v39, ev39, hF⟩ := zL_out hF
        refine lv_iinc (v := v39) (lv' := [(7, .int v39), (0, .ref (g.1 26 0)), (1, .int a1), (2, .int a2), (3, .int a3), (4, .int v35), (5, .int v36), (6, .int v37), (8, .int v38)]) S.1 S.2.1 dX7_bestOrder_155 hl (k := 7) rfl (by rw [← ev39]; rfl) (by decide) rfl (fun ls hl => ?_)
        refine lv_goto (tgt := 58) S.1 S.2.1 dX7_bestOrder_158 (by decide) ?_
        exact ih _ _ _ _ _ _ _ hR hS _ (lv_sub hl [1, 2, 3, 4, 5, 6, 7, 0] rfl) hF
  unfold fX7_bestOrder at hF
  refine lv_aload_n S.1 S.2.1 dX7_bestOrder_0 rfl (lv_at hl 0 rfl) ?_
  refine lv_iload_n S.1 S.2.1 dX7_bestOrder_1 rfl (lv_at hl 1 rfl) ?_
  refine z_goi hS hF (fun _ _ ho => va_runV (C := RX7) (n := 1) (As := [.int v1]) (rest := []) S (kX7_isKite l hg ho) (cwV 1 S.2.2.2.2 (zgV wm_X7_114 oX7_isKite) rfl rfl rfl hX7_isKite ⟨Nat.le_of_ble_eq_true rfl, Nat.le_of_ble_eq_true rfl⟩) ⟨zPc_blind, z_recv hK hR (by decide) rfl rfl, z_pre hK hR⟩ rfl rfl hl.1 rfl (lv_room (Nat.le_of_ble_eq_true rfl)) dX7_bestOrder_2 ⟨Nat.zero_le _, Nat.zero_le _⟩) (fun r22 M21 H locs hR hS hF => ?_)
  refine lv_if_ne (tgt := 10) S.1 S.2.1 dX7_bestOrder_5 (by decide) (fun hc => ?_) (fun hc => ?_)
  · replace hF := z_cf hF hc
    refine lv_iload_n S.1 S.2.1 dX7_bestOrder_10 rfl (lv_at hl 2 rfl) ?_
    refine lv_iconst (v := 1) S.1 S.2.1 dX7_bestOrder_11 (by decide) ?_
    refine lv_bipush (v := 50) S.1 S.2.1 dX7_bestOrder_12 (by decide) ?_
    refine z_goi hS hF (fun _ _ ho => va_runS (n := 3) (As := [.int v2, .int 1, .int 50]) (rest := []) S (kX7_within l hg ho) (va_cwS 3 S.2.2.2.2 (zgS wm_X7_39 oX7_within) rfl rfl rfl hX7_within.2 ⟨Nat.le_of_ble_eq_true rfl, Nat.le_of_ble_eq_true rfl⟩) ⟨zPc_blind, z_pre hK hR⟩ rfl rfl hl.1 rfl (lv_room (Nat.le_of_ble_eq_true rfl)) dX7_bestOrder_14 ⟨Nat.zero_le _, Nat.zero_le _⟩) (fun r24 M23 H locs hR hS hF => ?_)
    refine lv_if_eq (tgt := 29) S.1 S.2.1 dX7_bestOrder_17 (by decide) (fun hc => ?_) (fun hc => ?_)
    · replace hF := z_ct hF hc
      refine lv_bipush (v := (-2)) S.1 S.2.1 dX7_bestOrder_29 (by decide) ?_
      exact z_iret S hr hlk hR hS hF dX7_bestOrder_31
    · replace hF := z_cf hF hc
      refine lv_iload_n S.1 S.2.1 dX7_bestOrder_20 rfl (lv_at hl 3 rfl) ?_
      refine lv_iconst (v := 0) S.1 S.2.1 dX7_bestOrder_21 (by decide) ?_
      refine lv_iconst (v := 2) S.1 S.2.1 dX7_bestOrder_22 (by decide) ?_
      refine z_goi hS hF (fun _ _ ho => va_runS (n := 3) (As := [.int v3, .int 0, .int 2]) (rest := []) S (kX7_within l hg ho) (va_cwS 3 S.2.2.2.2 (zgS wm_X7_39 oX7_within) rfl rfl rfl hX7_within.2 ⟨Nat.le_of_ble_eq_true rfl, Nat.le_of_ble_eq_true rfl⟩) ⟨zPc_blind, z_pre hK hR⟩ rfl rfl hl.1 rfl (lv_room (Nat.le_of_ble_eq_true rfl)) dX7_bestOrder_23 ⟨Nat.zero_le _, Nat.zero_le _⟩) (fun r26 M25 H locs hR hS hF => ?_)
      refine lv_if_ne (tgt := 32) S.1 S.2.1 dX7_bestOrder_26 (by decide) (fun hc => ?_) (fun hc => ?_)
      · replace hF := z_cf hF hc
        refine lv_aload_n S.1 S.2.1 dX7_bestOrder_32 rfl (lv_at hl 0 rfl) ?_
        refine lv_iload_n S.1 S.2.1 dX7_bestOrder_33 rfl (lv_at hl 1 rfl) ?_
        refine z_goi hS hF (fun _ _ ho => va_runV (C := RX7) (n := 1) (As := [.int v1]) (rest := []) S (kX7_flies l hg ho) (cwV 1 S.2.2.2.2 (zgV wm_X7_55 oX7_flies) rfl rfl rfl hX7_flies ⟨Nat.le_of_ble_eq_true rfl, Nat.le_of_ble_eq_true rfl⟩) ⟨zPc_blind, z_recv hK hR (by decide) rfl rfl, z_pre hK hR⟩ rfl rfl hl.1 rfl (lv_room (Nat.le_of_ble_eq_true rfl)) dX7_bestOrder_34 ⟨Nat.zero_le _, Nat.zero_le _⟩) (fun r28 M27 H locs hR hS hF => ?_)
        refine lv_if_ne (tgt := 43) S.1 S.2.1 dX7_bestOrder_37 (by decide) (fun hc => ?_) (fun hc => ?_)
        · replace hF := z_cf hF hc
          refine lv_bipush (v := (-6)) S.1 S.2.1 dX7_bestOrder_43 (by decide) ?_
          refine lv_istore (lv' := [(4, .int (-6)), (0, .ref (g.1 26 0)), (1, .int v1), (2, .int v2), (3, .int v3)]) S.1 S.2.1 dX7_bestOrder_45 hl (by decide) rfl (fun ls hl => ?_)
          refine lv_bipush (v := (-6)) S.1 S.2.1 dX7_bestOrder_47 (by decide) ?_
          refine lv_istore (lv' := [(5, .int (-6)), (4, .int (-6)), (0, .ref (g.1 26 0)), (1, .int v1), (2, .int v2), (3, .int v3)]) S.1 S.2.1 dX7_bestOrder_49 hl (by decide) rfl (fun ls hl => ?_)
          refine lv_iconst (v := 0) S.1 S.2.1 dX7_bestOrder_51 (by decide) ?_
          refine lv_istore (lv' := [(6, .int 0), (5, .int (-6)), (4, .int (-6)), (0, .ref (g.1 26 0)), (1, .int v1), (2, .int v2), (3, .int v3)]) S.1 S.2.1 dX7_bestOrder_52 hl (by decide) rfl (fun ls hl => ?_)
          refine lv_bipush (v := (-3)) S.1 S.2.1 dX7_bestOrder_54 (by decide) ?_
          refine lv_istore (lv' := [(7, .int (-3)), (6, .int 0), (5, .int (-6)), (4, .int (-6)), (0, .ref (g.1 26 0)), (1, .int v1), (2, .int v2), (3, .int v3)]) S.1 S.2.1 dX7_bestOrder_56 hl (by decide) rfl (fun ls hl => ?_)
          refine L58 _ _ _ _ (fun M40 v41 v42 v43 v44 H locs hR hS ls hl hF => ?_) _ _ _ _ _ _ _ _ hR hS _ (lv_sub hl [4, 5, 6, 7, 3, 2, 1, 0] rfl) hF
          refine lv_iload_n S.1 S.2.1 dX7_bestOrder_161 rfl (lv_at hl 3 rfl) ?_
          refine lv_if_ne (tgt := 170) S.1 S.2.1 dX7_bestOrder_162 (by decide) (fun hc => ?_) (fun hc => ?_)
          · replace hF := z_cf hF hc
            refine lv_iload_n S.1 S.2.1 dX7_bestOrder_170 rfl (lv_at hl 3 rfl) ?_
            refine lv_iconst (v := 1) S.1 S.2.1 dX7_bestOrder_171 (by decide) ?_
            refine lv_icmp_ne (tgt := 180) S.1 S.2.1 dX7_bestOrder_172 (by decide) (fun hc => ?_) (fun hc => ?_)
            · replace hF := z_cf hF hc
              refine lv_iload S.1 S.2.1 dX7_bestOrder_180 (lv_at hl 6 rfl) ?_
              refine lv_bipush (v := 10) S.1 S.2.1 dX7_bestOrder_182 (by decide) ?_
              refine lv_iadd S.1 S.2.1 dX7_bestOrder_184 ?_
              exact z_iret S hr hlk hR hS hF dX7_bestOrder_185
            · replace hF := z_ct hF hc
              refine lv_iload S.1 S.2.1 dX7_bestOrder_175 (lv_at hl 5 rfl) ?_
              refine lv_goto (tgt := 182) S.1 S.2.1 dX7_bestOrder_177 (by decide) ?_
              refine lv_bipush (v := 10) S.1 S.2.1 dX7_bestOrder_182 (by decide) ?_
              refine lv_iadd S.1 S.2.1 dX7_bestOrder_184 ?_
              exact z_iret S hr hlk hR hS hF dX7_bestOrder_185
          · replace hF := z_ct hF hc
            refine lv_iload S.1 S.2.1 dX7_bestOrder_165 (lv_at hl 4 rfl) ?_
            refine lv_goto (tgt := 182) S.1 S.2.1 dX7_bestOrder_167 (by decide) ?_
            refine lv_bipush (v := 10) S.1 S.2.1 dX7_bestOrder_182 (by decide) ?_
            refine lv_iadd S.1 S.2.1 dX7_bestOrder_184 ?_
            exact z_iret S hr hlk hR hS hF dX7_bestOrder_185
        · replace hF := z_ct hF hc
          refine lv_bipush (v := (-5)) S.1 S.2.1 dX7_bestOrder_40 (by decide) ?_
          exact z_iret S hr hlk hR hS hF dX7_bestOrder_42
      · replace hF := z_ct hF hc
        refine lv_bipush (v := (-2)) S.1 S.2.1 dX7_bestOrder_29 (by decide) ?_
        exact z_iret S hr hlk hR hS hF dX7_bestOrder_31
  · replace hF := z_ct hF hc
    refine lv_iconst (v := (-1)) S.1 S.2.1 dX7_bestOrder_8 (by decide) ?_
    exact z_iret S hr hlk hR hS hF dX7_bestOrder_9
theorem hX7_put : yX7_put.cls = RX7 ∧ yX7_put.cls ≠ "java/lang/invoke/MethodHandle" ∧ yX7_put.cls ≠ "java/lang/invoke/VarHandle" ∧ (parseMethodDescriptor yX7_put.desc).map (fun d => d.parameters.length) = some 1 := by decide +kernel
theorem oX7_put : Cond.instanceMethod yX7_put ∈ zT ∧ Cond.selects RX7 yX7_put yX7_put ∈ zT ∧ Cond.initialized RX7 ∈ zT ∧ Cond.code yX7_put cX7_put 8 (some .int) ∈ zT := ⟨wv_X7_put, we_X7_put, wi_X7, wk_X7_put⟩
set_option maxRecDepth 100000 in
set_option maxHeartbeats 4000000 in
theorem kX7_put (l : Launch) {g : zGeo} {z : Nat} (hg : zAd g z) {M M' : zM} {v1 : Int64} {r : Int32} (hF : fX7_put M v1 = some (r, M')) : Met l yX7_put [.code yX7_put cX7_put 8 (some .int)] { frames := 1, cells := 0, slots := 0, locals := 22 } (zPc g M [.ref (g.1 26 0), .long v1]) (zQi g z r M') 0 0 (zS z) := by
  refine z_enter (cc := cX7_put) (maxL := 8) (ret := (some .int)) (by decide) rfl (Nat.le_of_ble_eq_true rfl) ?_
  intro p e s m below meth c S hr hlk hK hR hS ls hl
  have S : CallFix p m c cX7_put 8 s _ zT RX7 := S
  have hl : lv_has ls 8 [(0, .ref (g.1 26 0)), (1, .long v1)] := hl
  have L8 : ∀ (k : zM → Int32 → Int64 → Int32 → Option (Int32 × zM)) (a1 : Int64), (∀ (M : zM) (a3 : Int32) (a4 : Int64) (a6 : Int32) (H : Heap) (locs : List Loc), zR g M H → va_S (zS z) s.heap H locs → ∀ ls : Array Slot, lv_has ls 8 [(0, .ref (g.1 26 0)), (1, .long a1), (3, .int a3), (4, .long a4), (6, .int a6)] → k M a3 a4 a6 = some (r, M') → W p l e { frames := 1, cells := 0, slots := 0, locals := 22 } s m ([.ref (g.1 26 0), .long v1] : List Value).toArray below meth c H locs 0 0 (MQ below (zQi g z r M') ([.ref (g.1 26 0), .long v1] : List Value).toArray s 0 0 (zS z)) (F0 m 67 ls [])) → ∀ (n : Nat) (M : zM) (a3 : Int32) (a4 : Int64) (a6 : Int32) (H : Heap) (locs : List Loc), zR g M H → va_S (zS z) s.heap H locs → ∀ ls : Array Slot, lv_has ls 8 [(0, .ref (g.1 26 0)), (1, .long a1), (3, .int a3), (4, .long a4), (6, .int a6)] → fX7_put_L8 k a1 n M a3 a4 a6 = some (r, M') → W p l e { frames := 1, cells := 0, slots := 0, locals := 22 } s m ([.ref (g.1 26 0), .long v1] : List Value).toArray below meth c H locs 0 0 (MQ below (zQi g z r M') ([.ref (g.1 26 0), .long v1] : List Value).toArray s 0 0 (zS z)) (F0 m 8 ls []) := by
    intro k a1 hk n
    induction n with
    | zero =>
      intro M a3 a4 a6 H locs hR hS ls hl hF
      cases hF
    | succ n ih =>
      intro M a3 a4 a6 H locs hR hS ls hl hF
      unfold fX7_put_L8 at hF
      refine lv_iload_n S.1 S.2.1 dX7_put_8 rfl (lv_at hl 2 rfl) ?_
      refine lv_bipush (v := 8) S.1 S.2.1 dX7_put_9 (by decide) ?_
      refine lv_icmp_ge (tgt := 67) S.1 S.2.1 dX7_put_11 (by decide) (fun hc => ?_) (fun hc => ?_)
      · replace hF := z_ct hF hc
        exact hk _ _ _ _ _ _ hR hS _ (lv_sub hl [0, 1, 2, 3, 4] rfl) hF
      · replace hF := z_cf hF hc
        refine lv_lload S.1 S.2.1 dX7_put_14 (lv_at hl 3 rfl) ?_
        refine lv_ldc2 (v := 255) S.1 S.2.1 S.2.2.2.1 (S.2.2.2.2 _ wl_X7_158) dX7_put_16 ?_
        refine lv_land S.1 S.2.1 dX7_put_19 ?_
        refine lv_lconst (v := 0) S.1 S.2.1 dX7_put_20 (by decide) ?_
        refine W.lcmp S.1 S.2.1 dX7_put_21 ?_
        refine lv_if_eq (tgt := 67) S.1 S.2.1 dX7_put_22 (by decide) (fun hc => ?_) (fun hc => ?_)
        · replace hF := z_ct hF hc
          exact hk _ _ _ _ _ _ hR hS _ (lv_sub hl [0, 1, 2, 3, 4] rfl) hF
        · replace hF := z_cf hF hc
          refine lv_iload S.1 S.2.1 dX7_put_25 (lv_at hl 4 rfl) ?_
          refine lv_if_eq (tgt := 51) S.1 S.2.1 dX7_put_27 (by decide) (fun hc => ?_) (fun hc => ?_)
          · replace hF := z_ct hF hc
            refine lv_iconst (v := 0) S.1 S.2.1 dX7_put_51 (by decide) ?_
            refine lv_istore (lv' := [(6, .int 0), (0, .ref (g.1 26 0)), (1, .long a1), (3, .int a3), (4, .long a4)]) S.1 S.2.1 dX7_put_52 hl (by decide) rfl (fun ls hl => ?_)
            refine lv_lload S.1 S.2.1 dX7_put_54 (lv_at hl 4 rfl) ?_
            refine lv_bipush (v := 8) S.1 S.2.1 dX7_put_56 (by decide) ?_
            refine lv_lushr (v := (a4.toUInt64 >>> ((8 : Int32).toInt64.toUInt64 &&& Int64.toUInt64 63)).toInt64) S.1 S.2.1 dX7_put_58 rfl ?_
            refine z_nml hF (fun v21 hF => ?_)
            refine lv_lstore (lv' := [(4, .long v21), (6, .int 0), (0, .ref (g.1 26 0)), (1, .long a1), (3, .int a3)]) S.1 S.2.1 dX7_put_59 hl (by decide) rfl (fun ls hl => ?_)
            obtain ⟨v22, ev22, hF⟩ := zL_out hF
            refine lv_iinc (v := v22) (lv' := [(3, .int v22), (4, .long v21), (6, .int 0), (0, .ref (g.1 26 0)), (1, .long a1)]) S.1 S.2.1 dX7_put_61 hl (k := 4) rfl (by rw [← ev22]; rfl) (by decide) rfl (fun ls hl => ?_)
            refine lv_goto (tgt := 8) S.1 S.2.1 dX7_put_64 (by decide) ?_
            exact ih _ _ _ _ _ _ hR hS _ (lv_sub hl [3, 4, 0, 1, 2] rfl) hF
          · replace hF := z_cf hF hc
            refine lv_lload S.1 S.2.1 dX7_put_30 (lv_at hl 3 rfl) ?_
            refine lv_ldc2 (v := 255) S.1 S.2.1 S.2.2.2.1 (S.2.2.2.2 _ wl_X7_158) dX7_put_32 ?_
            refine lv_land S.1 S.2.1 dX7_put_35 ?_
            refine lv_l2i (v := (a4 &&& 255).toInt32) S.1 S.2.1 dX7_put_36 rfl ?_
            refine lv_bipush (v := 33) S.1 S.2.1 dX7_put_37 (by decide) ?_
            refine lv_bipush (v := 126) S.1 S.2.1 dX7_put_39 (by decide) ?_
            refine z_goi hS hF (fun _ _ ho => va_runS (n := 3) (As := [.int ((a4 &&& 255).toInt32), .int 33, .int 126]) (rest := []) S (kX7_within l hg ho) (va_cwS 3 S.2.2.2.2 (zgS wm_X7_39 oX7_within) rfl rfl rfl hX7_within.2 ⟨Nat.le_of_ble_eq_true rfl, Nat.le_of_ble_eq_true rfl⟩) ⟨zPc_blind, z_pre hK hR⟩ rfl rfl hl.1 rfl (lv_room (Nat.le_of_ble_eq_true rfl)) dX7_put_41 ⟨Nat.zero_le _, Nat.zero_le _⟩) (fun r24 M23 H locs hR hS hF => ?_)
            refine lv_if_eq (tgt := 51) S.1 S.2.1 dX7_put_44 (by decide) (fun hc => ?_) (fun hc => ?_)
            · replace hF := z_ct hF hc
              refine lv_iconst (v := 0) S.1 S.2.1 dX7_put_51 (by decide) ?_
              refine lv_istore (lv' := [(6, .int 0), (0, .ref (g.1 26 0)), (1, .long a1), (3, .int a3), (4, .long a4)]) S.1 S.2.1 dX7_put_52 hl (by decide) rfl (fun ls hl => ?_)
              refine lv_lload S.1 S.2.1 dX7_put_54 (lv_at hl 4 rfl) ?_
              refine lv_bipush (v := 8) S.1 S.2.1 dX7_put_56 (by decide) ?_
              refine lv_lushr (v := (a4.toUInt64 >>> ((8 : Int32).toInt64.toUInt64 &&& Int64.toUInt64 63)).toInt64) S.1 S.2.1 dX7_put_58 rfl ?_
              refine z_nml hF (fun v25 hF => ?_)
              refine lv_lstore (lv' := [(4, .long v25), (6, .int 0), (0, .ref (g.1 26 0)), (1, .long a1), (3, .int a3)]) S.1 S.2.1 dX7_put_59 hl (by decide) rfl (fun ls hl => ?_)
              obtain ⟨v26, ev26, hF⟩ := zL_out hF
              refine lv_iinc (v := v26) (lv' := [(3, .int v26), (4, .long v25), (6, .int 0), (0, .ref (g.1 26 0)), (1, .long a1)]) S.1 S.2.1 dX7_put_61 hl (k := 4) rfl (by rw [← ev26]; rfl) (by decide) rfl (fun ls hl => ?_)
              refine lv_goto (tgt := 8) S.1 S.2.1 dX7_put_64 (by decide) ?_
              exact ih _ _ _ _ _ _ hR hS _ (lv_sub hl [3, 4, 0, 1, 2] rfl) hF
            · replace hF := z_cf hF hc
              refine lv_iconst (v := 1) S.1 S.2.1 dX7_put_47 (by decide) ?_
              refine lv_goto (tgt := 52) S.1 S.2.1 dX7_put_48 (by decide) ?_
              refine lv_istore (lv' := [(6, .int 1), (0, .ref (g.1 26 0)), (1, .long a1), (3, .int a3), (4, .long a4)]) S.1 S.2.1 dX7_put_52 hl (by decide) rfl (fun ls hl => ?_)
              refine lv_lload S.1 S.2.1 dX7_put_54 (lv_at hl 4 rfl) ?_
              refine lv_bipush (v := 8) S.1 S.2.1 dX7_put_56 (by decide) ?_
              refine lv_lushr (v := (a4.toUInt64 >>> ((8 : Int32).toInt64.toUInt64 &&& Int64.toUInt64 63)).toInt64) S.1 S.2.1 dX7_put_58 rfl ?_
              refine z_nml hF (fun v27 hF => ?_)
              refine lv_lstore (lv' := [(4, .long v27), (6, .int 1), (0, .ref (g.1 26 0)), (1, .long a1), (3, .int a3)]) S.1 S.2.1 dX7_put_59 hl (by decide) rfl (fun ls hl => ?_)
              obtain ⟨v28, ev28, hF⟩ := zL_out hF
              refine lv_iinc (v := v28) (lv' := [(3, .int v28), (4, .long v27), (6, .int 1), (0, .ref (g.1 26 0)), (1, .long a1)]) S.1 S.2.1 dX7_put_61 hl (k := 4) rfl (by rw [← ev28]; rfl) (by decide) rfl (fun ls hl => ?_)
              refine lv_goto (tgt := 8) S.1 S.2.1 dX7_put_64 (by decide) ?_
              exact ih _ _ _ _ _ _ hR hS _ (lv_sub hl [3, 4, 0, 1, 2] rfl) hF
  have L105 : ∀ (k : zM → Int32 → Option (Int32 × zM)) (a1 : Int64) (a3 : Int32) (a4 : Int64) (a6 : Int32), (∀ (M : zM) (a7 : Int32) (H : Heap) (locs : List Loc), zR g M H → va_S (zS z) s.heap H locs → ∀ ls : Array Slot, lv_has ls 8 [(0, .ref (g.1 26 0)), (1, .long a1), (3, .int a3), (4, .long a4), (6, .int a6), (7, .int a7)] → k M a7 = some (r, M') → W p l e { frames := 1, cells := 0, slots := 0, locals := 22 } s m ([.ref (g.1 26 0), .long v1] : List Value).toArray below meth c H locs 0 0 (MQ below (zQi g z r M') ([.ref (g.1 26 0), .long v1] : List Value).toArray s 0 0 (zS z)) (F0 m 147 ls [])) → ∀ (n : Nat) (M : zM) (a7 : Int32) (H : Heap) (locs : List Loc), zR g M H → va_S (zS z) s.heap H locs → ∀ ls : Array Slot, lv_has ls 8 [(0, .ref (g.1 26 0)), (1, .long a1), (3, .int a3), (4, .long a4), (6, .int a6), (7, .int a7)] → fX7_put_L105 k a1 a3 a4 a6 n M a7 = some (r, M') → W p l e { frames := 1, cells := 0, slots := 0, locals := 22 } s m ([.ref (g.1 26 0), .long v1] : List Value).toArray below meth c H locs 0 0 (MQ below (zQi g z r M') ([.ref (g.1 26 0), .long v1] : List Value).toArray s 0 0 (zS z)) (F0 m 105 ls []) := by
    intro k a1 a3 a4 a6 hk n
    induction n with
    | zero =>
      intro M a7 H locs hR hS ls hl hF
      cases hF
    | succ n ih =>
      intro M a7 H locs hR hS ls hl hF
      unfold fX7_put_L105 at hF
      refine lv_iload S.1 S.2.1 dX7_put_105 (lv_at hl 5 rfl) ?_
      refine lv_if_lt (tgt := 147) S.1 S.2.1 dX7_put_107 (by decide) (fun hc => ?_) (fun hc => ?_)
      · replace hF := z_ct hF hc
        exact hk _ _ _ _ hR hS _ (lv_sub hl [0, 1, 2, 3, 4, 5] rfl) hF
      · replace hF := z_cf hF hc
        refine lv_aload_n S.1 S.2.1 dX7_put_110 rfl (lv_at hl 0 rfl) ?_
        refine z_get (k := 26) (i := 0) (f := 6) (v := .ref (g.1 32 0)) S hK hR (by decide) rfl rfl (by decide) wf_X7_25 rfl dX7_put_111 ?_
        refine lv_aload_n S.1 S.2.1 dX7_put_114 rfl (lv_at hl 0 rfl) ?_
        refine z_get (k := 26) (i := 0) (f := 7) (v := .int (M 26 0 7)) S hK hR (by decide) rfl rfl (by decide) wf_X7_148 rfl dX7_put_115 ?_
        refine lv_lload_n S.1 S.2.1 dX7_put_118 rfl (lv_at hl 1 rfl) ?_
        refine lv_bipush (v := 8) S.1 S.2.1 dX7_put_119 (by decide) ?_
        refine lv_iload S.1 S.2.1 dX7_put_121 (lv_at hl 5 rfl) ?_
        refine lv_imul S.1 S.2.1 dX7_put_123 ?_
        refine lv_lushr (v := (a1.toUInt64 >>> ((8 * a7).toInt64.toUInt64 &&& Int64.toUInt64 63)).toInt64) S.1 S.2.1 dX7_put_124 rfl ?_
        refine lv_ldc2 (v := 255) S.1 S.2.1 S.2.2.2.1 (S.2.2.2.2 _ wl_X7_158) dX7_put_125 ?_
        refine lv_land S.1 S.2.1 dX7_put_128 ?_
        refine lv_l2i (v := (((a1.toUInt64 >>> ((8 * a7).toInt64.toUInt64 &&& Int64.toUInt64 63)).toInt64) &&& 255).toInt32) S.1 S.2.1 dX7_put_129 rfl ?_
        refine z_iast (k := 32) (i := 0) (n := 60) S hg hK hR hS hF (by decide) rfl dX7_put_130 (fun H locs M34 hR hS hF => ?_)
        refine lv_aload_n S.1 S.2.1 dX7_put_131 rfl (lv_at hl 0 rfl) ?_
        refine lv_dup S.1 S.2.1 dX7_put_132 rfl ?_
        refine z_get (k := 26) (i := 0) (f := 7) (v := .int (M34 26 0 7)) S hK hR (by decide) rfl rfl (by decide) wf_X7_148 rfl dX7_put_133 ?_
        refine lv_iconst (v := 1) S.1 S.2.1 dX7_put_136 (by decide) ?_
        refine lv_iadd S.1 S.2.1 dX7_put_137 ?_
        refine z_put (k := 26) (i := 0) (f := 7) (ty := .int) S hg hK hR hS hF (by decide) rfl rfl rfl (by decide) wf_X7_148 rfl (by decide +kernel) rfl rfl (Nat.le_of_ble_eq_true rfl) dX7_put_138 (fun H locs M35 hR hS hF => ?_)
        obtain ⟨v36, ev36, hF⟩ := zL_out hF
        refine lv_iinc (v := v36) (lv' := [(7, .int v36), (0, .ref (g.1 26 0)), (1, .long a1), (3, .int a3), (4, .long a4), (6, .int a6)]) S.1 S.2.1 dX7_put_141 hl (k := 5) rfl (by rw [← ev36]; rfl) (by decide) rfl (fun ls hl => ?_)
        refine lv_goto (tgt := 105) S.1 S.2.1 dX7_put_144 (by decide) ?_
        exact ih _ _ _ _ hR hS _ (lv_sub hl [1, 2, 3, 4, 5, 0] rfl) hF
  unfold fX7_put at hF
  refine lv_iconst (v := 0) S.1 S.2.1 dX7_put_0 (by decide) ?_
  refine lv_istore_n (lv' := [(3, .int 0), (0, .ref (g.1 26 0)), (1, .long v1)]) S.1 S.2.1 dX7_put_1 rfl hl (by decide) rfl (fun ls hl => ?_)
  refine lv_lload_n S.1 S.2.1 dX7_put_2 rfl (lv_at hl 2 rfl) ?_
  refine lv_lstore (lv' := [(4, .long v1), (3, .int 0), (0, .ref (g.1 26 0)), (1, .long v1)]) S.1 S.2.1 dX7_put_3 hl (by decide) rfl (fun ls hl => ?_)
  refine lv_iconst (v := 1) S.1 S.2.1 dX7_put_5 (by decide) ?_
  refine lv_istore (lv' := [(6, .int 1), (4, .long v1), (3, .int 0), (0, .ref (g.1 26 0)), (1, .long v1)]) S.1 S.2.1 dX7_put_6 hl (by decide) rfl (fun ls hl => ?_)
  refine L8 _ _ (fun M29 v30 v31 v32 H locs hR hS ls hl hF => ?_) _ _ _ _ _ _ _ hR hS _ (lv_sub hl [3, 4, 2, 1, 0] rfl) hF
  refine lv_iload_n S.1 S.2.1 dX7_put_67 rfl (lv_at hl 2 rfl) ?_
  refine lv_if_eq (tgt := 83) S.1 S.2.1 dX7_put_68 (by decide) (fun hc => ?_) (fun hc => ?_)
  · replace hF := z_ct hF hc
    refine lv_bipush (v := (-2)) S.1 S.2.1 dX7_put_83 (by decide) ?_
    exact z_iret S hr hlk hR hS hF dX7_put_85
  · replace hF := z_cf hF hc
    refine lv_iload S.1 S.2.1 dX7_put_71 (lv_at hl 4 rfl) ?_
    refine lv_if_eq (tgt := 83) S.1 S.2.1 dX7_put_73 (by decide) (fun hc => ?_) (fun hc => ?_)
    · replace hF := z_ct hF hc
      refine lv_bipush (v := (-2)) S.1 S.2.1 dX7_put_83 (by decide) ?_
      exact z_iret S hr hlk hR hS hF dX7_put_85
    · replace hF := z_cf hF hc
      refine lv_lload S.1 S.2.1 dX7_put_76 (lv_at hl 3 rfl) ?_
      refine lv_lconst (v := 0) S.1 S.2.1 dX7_put_78 (by decide) ?_
      refine W.lcmp S.1 S.2.1 dX7_put_79 ?_
      refine lv_if_eq (tgt := 86) S.1 S.2.1 dX7_put_80 (by decide) (fun hc => ?_) (fun hc => ?_)
      · replace hF := z_ct hF hc
        refine lv_aload_n S.1 S.2.1 dX7_put_86 rfl (lv_at hl 0 rfl) ?_
        refine z_get (k := 26) (i := 0) (f := 7) (v := .int (M29 26 0 7)) S hK hR (by decide) rfl rfl (by decide) wf_X7_148 rfl dX7_put_87 ?_
        refine lv_iload_n S.1 S.2.1 dX7_put_90 rfl (lv_at hl 2 rfl) ?_
        refine lv_iadd S.1 S.2.1 dX7_put_91 ?_
        refine lv_bipush (v := 60) S.1 S.2.1 dX7_put_92 (by decide) ?_
        refine lv_icmp_le (tgt := 100) S.1 S.2.1 dX7_put_94 (by decide) (fun hc => ?_) (fun hc => ?_)
        · replace hF := z_ct hF hc
          refine lv_iload_n S.1 S.2.1 dX7_put_100 rfl (lv_at hl 2 rfl) ?_
          refine lv_iconst (v := 1) S.1 S.2.1 dX7_put_101 (by decide) ?_
          refine lv_isub S.1 S.2.1 dX7_put_102 ?_
          refine z_nm hF (fun v33 hF => ?_)
          refine lv_istore (lv' := [(7, .int v33), (0, .ref (g.1 26 0)), (1, .long v1), (3, .int v30), (4, .long v31), (6, .int v32)]) S.1 S.2.1 dX7_put_103 hl (by decide) rfl (fun ls hl => ?_)
          refine L105 _ _ _ _ _ (fun M37 v38 H locs hR hS ls hl hF => ?_) _ _ _ _ _ hR hS _ (lv_sub hl [1, 2, 3, 4, 5, 0] rfl) hF
          refine lv_aload_n S.1 S.2.1 dX7_put_147 rfl (lv_at hl 0 rfl) ?_
          refine z_get (k := 26) (i := 0) (f := 7) (v := .int (M37 26 0 7)) S hK hR (by decide) rfl rfl (by decide) wf_X7_148 rfl dX7_put_148 ?_
          exact z_iret S hr hlk hR hS hF dX7_put_151
        · replace hF := z_cf hF hc
          refine lv_bipush (v := (-4)) S.1 S.2.1 dX7_put_97 (by decide) ?_
          exact z_iret S hr hlk hR hS hF dX7_put_99
      · replace hF := z_cf hF hc
        refine lv_bipush (v := (-2)) S.1 S.2.1 dX7_put_83 (by decide) ?_
        exact z_iret S hr hlk hR hS hF dX7_put_85
theorem hX7_wipe : yX7_wipe.cls = RX7 ∧ yX7_wipe.cls ≠ "java/lang/invoke/MethodHandle" ∧ yX7_wipe.cls ≠ "java/lang/invoke/VarHandle" ∧ (parseMethodDescriptor yX7_wipe.desc).map (fun d => d.parameters.length) = some 0 := by decide +kernel
theorem oX7_wipe : Cond.instanceMethod yX7_wipe ∈ zT ∧ Cond.selects RX7 yX7_wipe yX7_wipe ∈ zT ∧ Cond.initialized RX7 ∈ zT ∧ Cond.code yX7_wipe cX7_wipe 2 (some .int) ∈ zT := ⟨wv_X7_wipe, we_X7_wipe, wi_X7, wk_X7_wipe⟩
set_option maxRecDepth 100000 in
set_option maxHeartbeats 4000000 in
theorem kX7_wipe (l : Launch) {g : zGeo} {z : Nat} (hg : zAd g z) {M M' : zM}  {r : Int32} (hF : fX7_wipe M = some (r, M')) : Met l yX7_wipe [.code yX7_wipe cX7_wipe 2 (some .int)] { frames := 0, cells := 0, slots := 0, locals := 0 } (zPc g M [.ref (g.1 26 0)]) (zQi g z r M') 0 0 (zS z) := by
  refine z_enter (cc := cX7_wipe) (maxL := 2) (ret := (some .int)) (by decide) rfl (Nat.le_of_ble_eq_true rfl) ?_
  intro p e s m below meth c S hr hlk hK hR hS ls hl
  have S : CallFix p m c cX7_wipe 2 s _ zT RX7 := S
  have hl : lv_has ls 2 [(0, .ref (g.1 26 0))] := hl
  unfold fX7_wipe at hF
  refine lv_aload_n S.1 S.2.1 dX7_wipe_0 rfl (lv_at hl 0 rfl) ?_
  refine z_get (k := 26) (i := 0) (f := 7) (v := .int (M 26 0 7)) S hK hR (by decide) rfl rfl (by decide) wf_X7_148 rfl dX7_wipe_1 ?_
  refine z_nm hF (fun v21 hF => ?_)
  refine lv_istore_n (lv' := [(1, .int v21), (0, .ref (g.1 26 0))]) S.1 S.2.1 dX7_wipe_4 rfl hl (by decide) rfl (fun ls hl => ?_)
  refine lv_aload_n S.1 S.2.1 dX7_wipe_5 rfl (lv_at hl 1 rfl) ?_
  refine lv_iconst (v := 0) S.1 S.2.1 dX7_wipe_6 (by decide) ?_
  refine z_put (k := 26) (i := 0) (f := 7) (ty := .int) S hg hK hR hS hF (by decide) rfl rfl rfl (by decide) wf_X7_148 rfl (by decide +kernel) rfl rfl (Nat.le_of_ble_eq_true rfl) dX7_wipe_7 (fun H locs M22 hR hS hF => ?_)
  refine lv_iload_n S.1 S.2.1 dX7_wipe_10 rfl (lv_at hl 0 rfl) ?_
  exact z_iret S hr hlk hR hS hF dX7_wipe_11
theorem hX7_character : yX7_character.cls = RX7 ∧ yX7_character.cls ≠ "java/lang/invoke/MethodHandle" ∧ yX7_character.cls ≠ "java/lang/invoke/VarHandle" ∧ (parseMethodDescriptor yX7_character.desc).map (fun d => d.parameters.length) = some 1 := by decide +kernel
theorem oX7_character : Cond.instanceMethod yX7_character ∈ zT ∧ Cond.selects RX7 yX7_character yX7_character ∈ zT ∧ Cond.initialized RX7 ∈ zT ∧ Cond.code yX7_character cX7_character 2 (some .int) ∈ zT := ⟨wv_X7_character, we_X7_character, wi_X7, wk_X7_character⟩
set_option maxRecDepth 100000 in
set_option maxHeartbeats 4000000 in
theorem kX7_character (l : Launch) {g : zGeo} {z : Nat} (hg : zAd g z) {M M' : zM} {v1 : Int32} {r : Int32} (hF : fX7_character M v1 = some (r, M')) : Met l yX7_character [.code yX7_character cX7_character 2 (some .int)] { frames := 0, cells := 0, slots := 0, locals := 0 } (zPc g M [.ref (g.1 26 0), .int v1]) (zQi g z r M') 0 0 (zS z) := by
  refine z_enter (cc := cX7_character) (maxL := 2) (ret := (some .int)) (by decide) rfl (Nat.le_of_ble_eq_true rfl) ?_
  intro p e s m below meth c S hr hlk hK hR hS ls hl
  have S : CallFix p m c cX7_character 2 s _ zT RX7 := S
  have hl : lv_has ls 2 [(0, .ref (g.1 26 0)), (1, .int v1)] := hl
  unfold fX7_character at hF
  refine lv_iload_n S.1 S.2.1 dX7_character_0 rfl (lv_at hl 1 rfl) ?_
  refine lv_aload_n S.1 S.2.1 dX7_character_1 rfl (lv_at hl 0 rfl) ?_
  refine z_get (k := 26) (i := 0) (f := 7) (v := .int (M 26 0 7)) S hK hR (by decide) rfl rfl (by decide) wf_X7_148 rfl dX7_character_2 ?_
  refine lv_icmp_ge (tgt := 17) S.1 S.2.1 dX7_character_5 (by decide) (fun hc => ?_) (fun hc => ?_)
  · replace hF := z_ct hF hc
    refine lv_iconst (v := (-1)) S.1 S.2.1 dX7_character_17 (by decide) ?_
    exact z_iret S hr hlk hR hS hF dX7_character_18
  · replace hF := z_cf hF hc
    refine lv_aload_n S.1 S.2.1 dX7_character_8 rfl (lv_at hl 0 rfl) ?_
    refine z_get (k := 26) (i := 0) (f := 6) (v := .ref (g.1 32 0)) S hK hR (by decide) rfl rfl (by decide) wf_X7_25 rfl dX7_character_9 ?_
    refine lv_iload_n S.1 S.2.1 dX7_character_12 rfl (lv_at hl 1 rfl) ?_
    refine z_iald (k := 32) (i := 0) (n := 60) S hK hR hF (by decide) rfl dX7_character_13 (fun hF => ?_)
    refine lv_goto (tgt := 18) S.1 S.2.1 dX7_character_14 (by decide) ?_
    exact z_iret S hr hlk hR hS hF dX7_character_18
theorem hX7_isNext : yX7_isNext.cls = RX7 ∧ yX7_isNext.cls ≠ "java/lang/invoke/MethodHandle" ∧ yX7_isNext.cls ≠ "java/lang/invoke/VarHandle" ∧ (parseMethodDescriptor yX7_isNext.desc).map (fun d => d.parameters.length) = some 1 := by decide +kernel
theorem oX7_isNext : Cond.instanceMethod yX7_isNext ∈ zT ∧ Cond.selects RX7 yX7_isNext yX7_isNext ∈ zT ∧ Cond.initialized RX7 ∈ zT ∧ Cond.code yX7_isNext cX7_isNext 3 (some .boolean) ∈ zT := ⟨wv_X7_isNext, we_X7_isNext, wi_X7, wk_X7_isNext⟩
set_option maxRecDepth 100000 in
set_option maxHeartbeats 4000000 in
theorem kX7_isNext (l : Launch) {g : zGeo} {z : Nat} (hg : zAd g z) {M M' : zM} {v1 : Int32} {r : Int32} (hF : fX7_isNext M v1 = some (r, M')) : Met l yX7_isNext [.code yX7_isNext cX7_isNext 3 (some .boolean)] { frames := 1, cells := 0, slots := 0, locals := 21 } (zPc g M [.ref (g.1 26 0), .int v1]) (zQi g z r M') 0 0 (zS z) := by
  refine z_enter (cc := cX7_isNext) (maxL := 3) (ret := (some .boolean)) (by decide) rfl (Nat.le_of_ble_eq_true rfl) ?_
  intro p e s m below meth c S hr hlk hK hR hS ls hl
  have S : CallFix p m c cX7_isNext 3 s _ zT RX7 := S
  have hl : lv_has ls 3 [(0, .ref (g.1 26 0)), (1, .int v1)] := hl
  unfold fX7_isNext at hF
  refine lv_aload_n S.1 S.2.1 dX7_isNext_0 rfl (lv_at hl 0 rfl) ?_
  refine lv_aload_n S.1 S.2.1 dX7_isNext_1 rfl (lv_at hl 0 rfl) ?_
  refine z_get (k := 26) (i := 0) (f := 14) (v := .int (M 26 0 14)) S hK hR (by decide) rfl rfl (by decide) wf_X7_160 rfl dX7_isNext_2 ?_
  refine z_goi hS hF (fun _ _ ho => va_runV (C := RX7) (n := 1) (As := [.int (M 26 0 14)]) (rest := []) S (kX7_character l hg ho) (cwV 1 S.2.2.2.2 (zgV wm_X7_163 oX7_character) rfl rfl rfl hX7_character ⟨Nat.le_of_ble_eq_true rfl, Nat.le_of_ble_eq_true rfl⟩) ⟨zPc_blind, z_recv hK hR (by decide) rfl rfl, z_pre hK hR⟩ rfl rfl hl.1 rfl (lv_room (Nat.le_of_ble_eq_true rfl)) dX7_isNext_5 ⟨Nat.zero_le _, Nat.zero_le _⟩) (fun r22 M21 H locs hR hS hF => ?_)
  refine lv_iload_n S.1 S.2.1 dX7_isNext_8 rfl (lv_at hl 1 rfl) ?_
  refine lv_icmp_ne (tgt := 16) S.1 S.2.1 dX7_isNext_9 (by decide) (fun hc => ?_) (fun hc => ?_)
  · replace hF := z_cf hF hc
    refine lv_iconst (v := 0) S.1 S.2.1 dX7_isNext_16 (by decide) ?_
    refine lv_istore_n (lv' := [(2, .int 0), (0, .ref (g.1 26 0)), (1, .int v1)]) S.1 S.2.1 dX7_isNext_17 rfl hl (by decide) rfl (fun ls hl => ?_)
    refine lv_aload_n S.1 S.2.1 dX7_isNext_18 rfl (lv_at hl 1 rfl) ?_
    refine lv_dup S.1 S.2.1 dX7_isNext_19 rfl ?_
    refine z_get (k := 26) (i := 0) (f := 14) (v := .int (M21 26 0 14)) S hK hR (by decide) rfl rfl (by decide) wf_X7_160 rfl dX7_isNext_20 ?_
    refine lv_iload_n S.1 S.2.1 dX7_isNext_23 rfl (lv_at hl 0 rfl) ?_
    refine lv_if_eq (tgt := 31) S.1 S.2.1 dX7_isNext_24 (by decide) (fun _ => ?_) (fun hc => absurd hc (by decide))
    refine lv_iconst (v := 0) S.1 S.2.1 dX7_isNext_31 (by decide) ?_
    refine lv_iadd S.1 S.2.1 dX7_isNext_32 ?_
    refine z_put (k := 26) (i := 0) (f := 14) (ty := .int) S hg hK hR hS hF (by decide) rfl rfl rfl (by decide) wf_X7_160 rfl (by decide +kernel) rfl rfl (Nat.le_of_ble_eq_true rfl) dX7_isNext_33 (fun H locs M23 hR hS hF => ?_)
    refine lv_iload_n S.1 S.2.1 dX7_isNext_36 rfl (lv_at hl 0 rfl) ?_
    exact z_zretc S hr hlk hR hS (by decide) hF dX7_isNext_37
  · replace hF := z_ct hF hc
    refine lv_iconst (v := 1) S.1 S.2.1 dX7_isNext_12 (by decide) ?_
    refine lv_goto (tgt := 17) S.1 S.2.1 dX7_isNext_13 (by decide) ?_
    refine lv_istore_n (lv' := [(2, .int 1), (0, .ref (g.1 26 0)), (1, .int v1)]) S.1 S.2.1 dX7_isNext_17 rfl hl (by decide) rfl (fun ls hl => ?_)
    refine lv_aload_n S.1 S.2.1 dX7_isNext_18 rfl (lv_at hl 1 rfl) ?_
    refine lv_dup S.1 S.2.1 dX7_isNext_19 rfl ?_
    refine z_get (k := 26) (i := 0) (f := 14) (v := .int (M21 26 0 14)) S hK hR (by decide) rfl rfl (by decide) wf_X7_160 rfl dX7_isNext_20 ?_
    refine lv_iload_n S.1 S.2.1 dX7_isNext_23 rfl (lv_at hl 0 rfl) ?_
    refine lv_if_eq (tgt := 31) S.1 S.2.1 dX7_isNext_24 (by decide) (fun hc => absurd hc (by decide)) (fun _ => ?_)
    refine lv_iconst (v := 1) S.1 S.2.1 dX7_isNext_27 (by decide) ?_
    refine lv_goto (tgt := 32) S.1 S.2.1 dX7_isNext_28 (by decide) ?_
    refine lv_iadd S.1 S.2.1 dX7_isNext_32 ?_
    refine z_put (k := 26) (i := 0) (f := 14) (ty := .int) S hg hK hR hS hF (by decide) rfl rfl rfl (by decide) wf_X7_160 rfl (by decide +kernel) rfl rfl (Nat.le_of_ble_eq_true rfl) dX7_isNext_33 (fun H locs M24 hR hS hF => ?_)
    refine lv_iload_n S.1 S.2.1 dX7_isNext_36 rfl (lv_at hl 0 rfl) ?_
    exact z_zretc S hr hlk hR hS (by decide) hF dX7_isNext_37
theorem hX7_takeDigit : yX7_takeDigit.cls = RX7 ∧ yX7_takeDigit.cls ≠ "java/lang/invoke/MethodHandle" ∧ yX7_takeDigit.cls ≠ "java/lang/invoke/VarHandle" ∧ (parseMethodDescriptor yX7_takeDigit.desc).map (fun d => d.parameters.length) = some 2 := by decide +kernel
theorem oX7_takeDigit : Cond.instanceMethod yX7_takeDigit ∈ zT ∧ Cond.selects RX7 yX7_takeDigit yX7_takeDigit ∈ zT ∧ Cond.initialized RX7 ∈ zT ∧ Cond.code yX7_takeDigit cX7_takeDigit 4 (some .int) ∈ zT := ⟨wv_X7_takeDigit, we_X7_takeDigit, wi_X7, wk_X7_takeDigit⟩
set_option maxRecDepth 100000 in
set_option maxHeartbeats 4000000 in
theorem kX7_takeDigit (l : Launch) {g : zGeo} {z : Nat} (hg : zAd g z) {M M' : zM} {v1 : Int32} {v2 : Int32} {r : Int32} (hF : fX7_takeDigit M v1 v2 = some (r, M')) : Met l yX7_takeDigit [.code yX7_takeDigit cX7_takeDigit 4 (some .int)] { frames := 1, cells := 0, slots := 0, locals := 22 } (zPc g M [.ref (g.1 26 0), .int v1, .int v2]) (zQi g z r M') 0 0 (zS z) := by
  refine z_enter (cc := cX7_takeDigit) (maxL := 4) (ret := (some .int)) (by decide) rfl (Nat.le_of_ble_eq_true rfl) ?_
  intro p e s m below meth c S hr hlk hK hR hS ls hl
  have S : CallFix p m c cX7_takeDigit 4 s _ zT RX7 := S
  have hl : lv_has ls 4 [(0, .ref (g.1 26 0)), (1, .int v1), (2, .int v2)] := hl
  unfold fX7_takeDigit at hF
  refine lv_aload_n S.1 S.2.1 dX7_takeDigit_0 rfl (lv_at hl 0 rfl) ?_
  refine lv_aload_n S.1 S.2.1 dX7_takeDigit_1 rfl (lv_at hl 0 rfl) ?_
  refine z_get (k := 26) (i := 0) (f := 14) (v := .int (M 26 0 14)) S hK hR (by decide) rfl rfl (by decide) wf_X7_160 rfl dX7_takeDigit_2 ?_
  refine z_goi hS hF (fun _ _ ho => va_runV (C := RX7) (n := 1) (As := [.int (M 26 0 14)]) (rest := []) S (kX7_character l hg ho) (cwV 1 S.2.2.2.2 (zgV wm_X7_163 oX7_character) rfl rfl rfl hX7_character ⟨Nat.le_of_ble_eq_true rfl, Nat.le_of_ble_eq_true rfl⟩) ⟨zPc_blind, z_recv hK hR (by decide) rfl rfl, z_pre hK hR⟩ rfl rfl hl.1 rfl (lv_room (Nat.le_of_ble_eq_true rfl)) dX7_takeDigit_5 ⟨Nat.zero_le _, Nat.zero_le _⟩) (fun r22 M21 H locs hR hS hF => ?_)
  refine lv_bipush (v := 48) S.1 S.2.1 dX7_takeDigit_8 (by decide) ?_
  refine lv_isub S.1 S.2.1 dX7_takeDigit_10 ?_
  refine z_nm hF (fun v23 hF => ?_)
  refine lv_istore_n (lv' := [(3, .int v23), (0, .ref (g.1 26 0)), (1, .int v1), (2, .int v2)]) S.1 S.2.1 dX7_takeDigit_11 rfl hl (by decide) rfl (fun ls hl => ?_)
  refine lv_iload_n S.1 S.2.1 dX7_takeDigit_12 rfl (lv_at hl 0 rfl) ?_
  refine lv_iload_n S.1 S.2.1 dX7_takeDigit_13 rfl (lv_at hl 2 rfl) ?_
  refine lv_iload_n S.1 S.2.1 dX7_takeDigit_14 rfl (lv_at hl 3 rfl) ?_
  refine z_goi hS hF (fun _ _ ho => va_runS (n := 3) (As := [.int v23, .int v1, .int v2]) (rest := []) S (kX7_within l hg ho) (va_cwS 3 S.2.2.2.2 (zgS wm_X7_39 oX7_within) rfl rfl rfl hX7_within.2 ⟨Nat.le_of_ble_eq_true rfl, Nat.le_of_ble_eq_true rfl⟩) ⟨zPc_blind, z_pre hK hR⟩ rfl rfl hl.1 rfl (lv_room (Nat.le_of_ble_eq_true rfl)) dX7_takeDigit_15 ⟨Nat.zero_le _, Nat.zero_le _⟩) (fun r25 M24 H locs hR hS hF => ?_)
  refine lv_if_ne (tgt := 23) S.1 S.2.1 dX7_takeDigit_18 (by decide) (fun hc => ?_) (fun hc => ?_)
  · replace hF := z_cf hF hc
    refine lv_aload_n S.1 S.2.1 dX7_takeDigit_23 rfl (lv_at hl 1 rfl) ?_
    refine lv_dup S.1 S.2.1 dX7_takeDigit_24 rfl ?_
    refine z_get (k := 26) (i := 0) (f := 14) (v := .int (M24 26 0 14)) S hK hR (by decide) rfl rfl (by decide) wf_X7_160 rfl dX7_takeDigit_25 ?_
    refine lv_iconst (v := 1) S.1 S.2.1 dX7_takeDigit_28 (by decide) ?_
    refine lv_iadd S.1 S.2.1 dX7_takeDigit_29 ?_
    refine z_put (k := 26) (i := 0) (f := 14) (ty := .int) S hg hK hR hS hF (by decide) rfl rfl rfl (by decide) wf_X7_160 rfl (by decide +kernel) rfl rfl (Nat.le_of_ble_eq_true rfl) dX7_takeDigit_30 (fun H locs M26 hR hS hF => ?_)
    refine lv_iload_n S.1 S.2.1 dX7_takeDigit_33 rfl (lv_at hl 0 rfl) ?_
    exact z_iret S hr hlk hR hS hF dX7_takeDigit_34
  · replace hF := z_ct hF hc
    refine lv_iconst (v := (-1)) S.1 S.2.1 dX7_takeDigit_21 (by decide) ?_
    exact z_iret S hr hlk hR hS hF dX7_takeDigit_22
theorem hX7_takeStep : yX7_takeStep.cls = RX7 ∧ yX7_takeStep.cls ≠ "java/lang/invoke/MethodHandle" ∧ yX7_takeStep.cls ≠ "java/lang/invoke/VarHandle" ∧ (parseMethodDescriptor yX7_takeStep.desc).map (fun d => d.parameters.length) = some 0 := by decide +kernel
theorem oX7_takeStep : Cond.instanceMethod yX7_takeStep ∈ zT ∧ Cond.selects RX7 yX7_takeStep yX7_takeStep ∈ zT ∧ Cond.initialized RX7 ∈ zT ∧ Cond.code yX7_takeStep cX7_takeStep 3 (some .int) ∈ zT := ⟨wv_X7_takeStep, we_X7_takeStep, wi_X7, wk_X7_takeStep⟩
set_option maxRecDepth 100000 in
set_option maxHeartbeats 4000000 in
theorem kX7_takeStep (l : Launch) {g : zGeo} {z : Nat} (hg : zAd g z) {M M' : zM}  {r : Int32} (hF : fX7_takeStep M = some (r, M')) : Met l yX7_takeStep [.code yX7_takeStep cX7_takeStep 3 (some .int)] { frames := 2, cells := 0, slots := 0, locals := 45 } (zPc g M [.ref (g.1 26 0)]) (zQi g z r M') 0 0 (zS z) := by
  refine z_enter (cc := cX7_takeStep) (maxL := 3) (ret := (some .int)) (by decide) rfl (Nat.le_of_ble_eq_true rfl) ?_
  intro p e s m below meth c S hr hlk hK hR hS ls hl
  have S : CallFix p m c cX7_takeStep 3 s _ zT RX7 := S
  have hl : lv_has ls 3 [(0, .ref (g.1 26 0))] := hl
  unfold fX7_takeStep at hF
  refine lv_aload_n S.1 S.2.1 dX7_takeStep_0 rfl (lv_at hl 0 rfl) ?_
  refine lv_bipush (v := 48) S.1 S.2.1 dX7_takeStep_1 (by decide) ?_
  refine z_goi hS hF (fun _ _ ho => va_runV (C := RX7) (n := 1) (As := [.int 48]) (rest := []) S (kX7_isNext l hg ho) (cwV 1 S.2.2.2.2 (zgV wm_X7_166 oX7_isNext) rfl rfl rfl hX7_isNext ⟨Nat.le_of_ble_eq_true rfl, Nat.le_of_ble_eq_true rfl⟩) ⟨zPc_blind, z_recv hK hR (by decide) rfl rfl, z_pre hK hR⟩ rfl rfl hl.1 rfl (lv_room (Nat.le_of_ble_eq_true rfl)) dX7_takeStep_3 ⟨Nat.zero_le _, Nat.zero_le _⟩) (fun r22 M21 H locs hR hS hF => ?_)
  refine lv_if_eq (tgt := 11) S.1 S.2.1 dX7_takeStep_6 (by decide) (fun hc => ?_) (fun hc => ?_)
  · replace hF := z_ct hF hc
    refine lv_aload_n S.1 S.2.1 dX7_takeStep_11 rfl (lv_at hl 0 rfl) ?_
    refine lv_bipush (v := 43) S.1 S.2.1 dX7_takeStep_12 (by decide) ?_
    refine z_goi hS hF (fun _ _ ho => va_runV (C := RX7) (n := 1) (As := [.int 43]) (rest := []) S (kX7_isNext l hg ho) (cwV 1 S.2.2.2.2 (zgV wm_X7_166 oX7_isNext) rfl rfl rfl hX7_isNext ⟨Nat.le_of_ble_eq_true rfl, Nat.le_of_ble_eq_true rfl⟩) ⟨zPc_blind, z_recv hK hR (by decide) rfl rfl, z_pre hK hR⟩ rfl rfl hl.1 rfl (lv_room (Nat.le_of_ble_eq_true rfl)) dX7_takeStep_14 ⟨Nat.zero_le _, Nat.zero_le _⟩) (fun r24 M23 H locs hR hS hF => ?_)
    refine lv_if_eq (tgt := 24) S.1 S.2.1 dX7_takeStep_17 (by decide) (fun hc => ?_) (fun hc => ?_)
    · replace hF := z_ct hF hc
      refine lv_aload_n S.1 S.2.1 dX7_takeStep_24 rfl (lv_at hl 0 rfl) ?_
      refine lv_bipush (v := 45) S.1 S.2.1 dX7_takeStep_25 (by decide) ?_
      refine z_goi hS hF (fun _ _ ho => va_runV (C := RX7) (n := 1) (As := [.int 45]) (rest := []) S (kX7_isNext l hg ho) (cwV 1 S.2.2.2.2 (zgV wm_X7_166 oX7_isNext) rfl rfl rfl hX7_isNext ⟨Nat.le_of_ble_eq_true rfl, Nat.le_of_ble_eq_true rfl⟩) ⟨zPc_blind, z_recv hK hR (by decide) rfl rfl, z_pre hK hR⟩ rfl rfl hl.1 rfl (lv_room (Nat.le_of_ble_eq_true rfl)) dX7_takeStep_27 ⟨Nat.zero_le _, Nat.zero_le _⟩) (fun r26 M25 H locs hR hS hF => ?_)
      refine lv_if_eq (tgt := 37) S.1 S.2.1 dX7_takeStep_30 (by decide) (fun hc => ?_) (fun hc => ?_)
      · replace hF := z_ct hF hc
        refine lv_iconst (v := 0) S.1 S.2.1 dX7_takeStep_37 (by decide) ?_
        refine lv_istore_n (lv' := [(1, .int 0), (0, .ref (g.1 26 0))]) S.1 S.2.1 dX7_takeStep_38 rfl hl (by decide) rfl (fun ls hl => ?_)
        refine lv_iload_n S.1 S.2.1 dX7_takeStep_39 rfl (lv_at hl 0 rfl) ?_
        refine lv_if_ne (tgt := 47) S.1 S.2.1 dX7_takeStep_40 (by decide) (fun hc => absurd hc (by decide)) (fun _ => ?_)
        refine lv_iconst (v := (-1)) S.1 S.2.1 dX7_takeStep_43 (by decide) ?_
        refine lv_goto (tgt := 53) S.1 S.2.1 dX7_takeStep_44 (by decide) ?_
        refine lv_istore_n (lv' := [(2, .int (-1)), (1, .int 0), (0, .ref (g.1 26 0))]) S.1 S.2.1 dX7_takeStep_53 rfl hl (by decide) rfl (fun ls hl => ?_)
        refine lv_iload_n S.1 S.2.1 dX7_takeStep_54 rfl (lv_at hl 0 rfl) ?_
        refine lv_if_ge (tgt := 63) S.1 S.2.1 dX7_takeStep_55 (by decide) (fun hc => absurd hc (by decide)) (fun _ => ?_)
        refine lv_bipush (v := (-6)) S.1 S.2.1 dX7_takeStep_58 (by decide) ?_
        refine lv_goto (tgt := 66) S.1 S.2.1 dX7_takeStep_60 (by decide) ?_
        exact z_iret S hr hlk hR hS hF dX7_takeStep_66
      · replace hF := z_cf hF hc
        refine lv_iconst (v := (-1)) S.1 S.2.1 dX7_takeStep_33 (by decide) ?_
        refine lv_goto (tgt := 38) S.1 S.2.1 dX7_takeStep_34 (by decide) ?_
        refine lv_istore_n (lv' := [(1, .int (-1)), (0, .ref (g.1 26 0))]) S.1 S.2.1 dX7_takeStep_38 rfl hl (by decide) rfl (fun ls hl => ?_)
        refine lv_iload_n S.1 S.2.1 dX7_takeStep_39 rfl (lv_at hl 0 rfl) ?_
        refine lv_if_ne (tgt := 47) S.1 S.2.1 dX7_takeStep_40 (by decide) (fun _ => ?_) (fun hc => absurd hc (by decide))
        refine lv_aload_n S.1 S.2.1 dX7_takeStep_47 rfl (lv_at hl 1 rfl) ?_
        refine lv_iconst (v := 1) S.1 S.2.1 dX7_takeStep_48 (by decide) ?_
        refine lv_iconst (v := 3) S.1 S.2.1 dX7_takeStep_49 (by decide) ?_
        refine z_goi hS hF (fun _ _ ho => va_runV (C := RX7) (n := 2) (As := [.int 1, .int 3]) (rest := []) S (kX7_takeDigit l hg ho) (cwV 2 S.2.2.2.2 (zgV wm_X7_169 oX7_takeDigit) rfl rfl rfl hX7_takeDigit ⟨Nat.le_of_ble_eq_true rfl, Nat.le_of_ble_eq_true rfl⟩) ⟨zPc_blind, z_recv hK hR (by decide) rfl rfl, z_pre hK hR⟩ rfl rfl hl.1 rfl (lv_room (Nat.le_of_ble_eq_true rfl)) dX7_takeStep_50 ⟨Nat.zero_le _, Nat.zero_le _⟩) (fun r28 M27 H locs hR hS hF => ?_)
        refine lv_istore_n (lv' := [(2, .int r28), (1, .int (-1)), (0, .ref (g.1 26 0))]) S.1 S.2.1 dX7_takeStep_53 rfl hl (by decide) rfl (fun ls hl => ?_)
        refine lv_iload_n S.1 S.2.1 dX7_takeStep_54 rfl (lv_at hl 0 rfl) ?_
        refine lv_if_ge (tgt := 63) S.1 S.2.1 dX7_takeStep_55 (by decide) (fun hc => ?_) (fun hc => ?_)
        · replace hF := z_ct hF hc
          refine lv_iload_n S.1 S.2.1 dX7_takeStep_63 rfl (lv_at hl 1 rfl) ?_
          refine lv_iload_n S.1 S.2.1 dX7_takeStep_64 rfl (lv_at hl 0 rfl) ?_
          refine lv_imul S.1 S.2.1 dX7_takeStep_65 ?_
          exact z_iret S hr hlk hR hS hF dX7_takeStep_66
        · replace hF := z_cf hF hc
          refine lv_bipush (v := (-6)) S.1 S.2.1 dX7_takeStep_58 (by decide) ?_
          refine lv_goto (tgt := 66) S.1 S.2.1 dX7_takeStep_60 (by decide) ?_
          exact z_iret S hr hlk hR hS hF dX7_takeStep_66
    · replace hF := z_cf hF hc
      refine lv_iconst (v := 1) S.1 S.2.1 dX7_takeStep_20 (by decide) ?_
      refine lv_goto (tgt := 38) S.1 S.2.1 dX7_takeStep_21 (by decide) ?_
      refine lv_istore_n (lv' := [(1, .int 1), (0, .ref (g.1 26 0))]) S.1 S.2.1 dX7_takeStep_38 rfl hl (by decide) rfl (fun ls hl => ?_)
      refine lv_iload_n S.1 S.2.1 dX7_takeStep_39 rfl (lv_at hl 0 rfl) ?_
      refine lv_if_ne (tgt := 47) S.1 S.2.1 dX7_takeStep_40 (by decide) (fun _ => ?_) (fun hc => absurd hc (by decide))
      refine lv_aload_n S.1 S.2.1 dX7_takeStep_47 rfl (lv_at hl 1 rfl) ?_
      refine lv_iconst (v := 1) S.1 S.2.1 dX7_takeStep_48 (by decide) ?_
      refine lv_iconst (v := 3) S.1 S.2.1 dX7_takeStep_49 (by decide) ?_
      refine z_goi hS hF (fun _ _ ho => va_runV (C := RX7) (n := 2) (As := [.int 1, .int 3]) (rest := []) S (kX7_takeDigit l hg ho) (cwV 2 S.2.2.2.2 (zgV wm_X7_169 oX7_takeDigit) rfl rfl rfl hX7_takeDigit ⟨Nat.le_of_ble_eq_true rfl, Nat.le_of_ble_eq_true rfl⟩) ⟨zPc_blind, z_recv hK hR (by decide) rfl rfl, z_pre hK hR⟩ rfl rfl hl.1 rfl (lv_room (Nat.le_of_ble_eq_true rfl)) dX7_takeStep_50 ⟨Nat.zero_le _, Nat.zero_le _⟩) (fun r30 M29 H locs hR hS hF => ?_)
      refine lv_istore_n (lv' := [(2, .int r30), (1, .int 1), (0, .ref (g.1 26 0))]) S.1 S.2.1 dX7_takeStep_53 rfl hl (by decide) rfl (fun ls hl => ?_)
      refine lv_iload_n S.1 S.2.1 dX7_takeStep_54 rfl (lv_at hl 0 rfl) ?_
      refine lv_if_ge (tgt := 63) S.1 S.2.1 dX7_takeStep_55 (by decide) (fun hc => ?_) (fun hc => ?_)
      · replace hF := z_ct hF hc
        refine lv_iload_n S.1 S.2.1 dX7_takeStep_63 rfl (lv_at hl 1 rfl) ?_
        refine lv_iload_n S.1 S.2.1 dX7_takeStep_64 rfl (lv_at hl 0 rfl) ?_
        refine lv_imul S.1 S.2.1 dX7_takeStep_65 ?_
        exact z_iret S hr hlk hR hS hF dX7_takeStep_66
      · replace hF := z_cf hF hc
        refine lv_bipush (v := (-6)) S.1 S.2.1 dX7_takeStep_58 (by decide) ?_
        refine lv_goto (tgt := 66) S.1 S.2.1 dX7_takeStep_60 (by decide) ?_
        exact z_iret S hr hlk hR hS hF dX7_takeStep_66
  · replace hF := z_cf hF hc
    refine lv_iconst (v := 0) S.1 S.2.1 dX7_takeStep_9 (by decide) ?_
    exact z_iret S hr hlk hR hS hF dX7_takeStep_10
theorem hX7_readsOrder : yX7_readsOrder.cls = RX7 ∧ yX7_readsOrder.cls ≠ "java/lang/invoke/MethodHandle" ∧ yX7_readsOrder.cls ≠ "java/lang/invoke/VarHandle" ∧ (parseMethodDescriptor yX7_readsOrder.desc).map (fun d => d.parameters.length) = some 0 := by decide +kernel
theorem oX7_readsOrder : Cond.instanceMethod yX7_readsOrder ∈ zT ∧ Cond.selects RX7 yX7_readsOrder yX7_readsOrder ∈ zT ∧ Cond.initialized RX7 ∈ zT ∧ Cond.code yX7_readsOrder cX7_readsOrder 1 (some .boolean) ∈ zT := ⟨wv_X7_readsOrder, we_X7_readsOrder, wi_X7, wk_X7_readsOrder⟩
set_option maxRecDepth 100000 in
set_option maxHeartbeats 4000000 in
theorem kX7_readsOrder (l : Launch) {g : zGeo} {z : Nat} (hg : zAd g z) {M M' : zM}  {r : Int32} (hF : fX7_readsOrder M = some (r, M')) : Met l yX7_readsOrder [.code yX7_readsOrder cX7_readsOrder 1 (some .boolean)] { frames := 3, cells := 0, slots := 0, locals := 67 } (zPc g M [.ref (g.1 26 0)]) (zQi g z r M') 0 0 (zS z) := by
  refine z_enter (cc := cX7_readsOrder) (maxL := 1) (ret := (some .boolean)) (by decide) rfl (Nat.le_of_ble_eq_true rfl) ?_
  intro p e s m below meth c S hr hlk hK hR hS ls hl
  have S : CallFix p m c cX7_readsOrder 1 s _ zT RX7 := S
  have hl : lv_has ls 1 [(0, .ref (g.1 26 0))] := hl
  unfold fX7_readsOrder at hF
  refine lv_aload_n S.1 S.2.1 dX7_readsOrder_0 rfl (lv_at hl 0 rfl) ?_
  refine lv_aload_n S.1 S.2.1 dX7_readsOrder_1 rfl (lv_at hl 0 rfl) ?_
  refine lv_iconst (v := 0) S.1 S.2.1 dX7_readsOrder_2 (by decide) ?_
  refine lv_iconst (v := 5) S.1 S.2.1 dX7_readsOrder_3 (by decide) ?_
  refine z_goi hS hF (fun _ _ ho => va_runV (C := RX7) (n := 2) (As := [.int 0, .int 5]) (rest := [.ref (g.1 26 0)]) S (kX7_takeDigit l hg ho) (cwV 2 S.2.2.2.2 (zgV wm_X7_169 oX7_takeDigit) rfl rfl rfl hX7_takeDigit ⟨Nat.le_of_ble_eq_true rfl, Nat.le_of_ble_eq_true rfl⟩) ⟨zPc_blind, z_recv hK hR (by decide) rfl rfl, z_pre hK hR⟩ rfl rfl hl.1 rfl (lv_room (Nat.le_of_ble_eq_true rfl)) dX7_readsOrder_4 ⟨Nat.zero_le _, Nat.zero_le _⟩) (fun r22 M21 H locs hR hS hF => ?_)
  refine z_put (k := 26) (i := 0) (f := 15) (ty := .int) S hg hK hR hS hF (by decide) rfl rfl rfl (by decide) wf_X7_172 rfl (by decide +kernel) rfl rfl (Nat.le_of_ble_eq_true rfl) dX7_readsOrder_7 (fun H locs M23 hR hS hF => ?_)
  refine lv_aload_n S.1 S.2.1 dX7_readsOrder_10 rfl (lv_at hl 0 rfl) ?_
  refine lv_aload_n S.1 S.2.1 dX7_readsOrder_11 rfl (lv_at hl 0 rfl) ?_
  refine z_get (k := 26) (i := 0) (f := 15) (v := .int (M23 26 0 15)) S hK hR (by decide) rfl rfl (by decide) wf_X7_172 rfl dX7_readsOrder_12 ?_
  refine lv_if_lt (tgt := 34) S.1 S.2.1 dX7_readsOrder_15 (by decide) (fun hc => ?_) (fun hc => ?_)
  · replace hF := z_ct hF hc
    refine lv_bipush (v := (-6)) S.1 S.2.1 dX7_readsOrder_34 (by decide) ?_
    refine z_put (k := 26) (i := 0) (f := 16) (ty := .int) S hg hK hR hS hF (by decide) rfl rfl rfl (by decide) wf_X7_178 rfl (by decide +kernel) rfl rfl (Nat.le_of_ble_eq_true rfl) dX7_readsOrder_36 (fun H locs M24 hR hS hF => ?_)
    refine lv_aload_n S.1 S.2.1 dX7_readsOrder_39 rfl (lv_at hl 0 rfl) ?_
    refine lv_aload_n S.1 S.2.1 dX7_readsOrder_40 rfl (lv_at hl 0 rfl) ?_
    refine z_get (k := 26) (i := 0) (f := 16) (v := .int (M24 26 0 16)) S hK hR (by decide) rfl rfl (by decide) wf_X7_178 rfl dX7_readsOrder_41 ?_
    refine lv_bipush (v := (-6)) S.1 S.2.1 dX7_readsOrder_44 (by decide) ?_
    refine lv_icmp_ne (tgt := 54) S.1 S.2.1 dX7_readsOrder_46 (by decide) (fun hc => ?_) (fun hc => ?_)
    · replace hF := z_cf hF hc
      refine lv_aload_n S.1 S.2.1 dX7_readsOrder_54 rfl (lv_at hl 0 rfl) ?_
      refine z_goi hS hF (fun _ _ ho => va_runV (C := RX7) (n := 0) (As := []) (rest := [.ref (g.1 26 0)]) S (kX7_takeStep l hg ho) (cwV 0 S.2.2.2.2 (zgV wm_X7_175 oX7_takeStep) rfl rfl rfl hX7_takeStep ⟨Nat.le_of_ble_eq_true rfl, Nat.le_of_ble_eq_true rfl⟩) ⟨zPc_blind, z_recv hK hR (by decide) rfl rfl, z_pre hK hR⟩ rfl rfl hl.1 rfl (lv_room (Nat.le_of_ble_eq_true rfl)) dX7_readsOrder_55 ⟨Nat.zero_le _, Nat.zero_le _⟩) (fun r26 M25 H locs hR hS hF => ?_)
      refine z_put (k := 26) (i := 0) (f := 17) (ty := .int) S hg hK hR hS hF (by decide) rfl rfl rfl (by decide) wf_X7_181 rfl (by decide +kernel) rfl rfl (Nat.le_of_ble_eq_true rfl) dX7_readsOrder_58 (fun H locs M27 hR hS hF => ?_)
      refine lv_aload_n S.1 S.2.1 dX7_readsOrder_61 rfl (lv_at hl 0 rfl) ?_
      refine z_get (k := 26) (i := 0) (f := 17) (v := .int (M27 26 0 17)) S hK hR (by decide) rfl rfl (by decide) wf_X7_181 rfl dX7_readsOrder_62 ?_
      refine lv_bipush (v := (-6)) S.1 S.2.1 dX7_readsOrder_65 (by decide) ?_
      refine lv_icmp_eq (tgt := 74) S.1 S.2.1 dX7_readsOrder_67 (by decide) (fun hc => ?_) (fun hc => ?_)
      · replace hF := z_ct hF hc
        refine lv_iconst (v := 0) S.1 S.2.1 dX7_readsOrder_74 (by decide) ?_
        exact z_zretc S hr hlk hR hS (by decide) hF dX7_readsOrder_75
      · replace hF := z_cf hF hc
        refine lv_iconst (v := 1) S.1 S.2.1 dX7_readsOrder_70 (by decide) ?_
        refine lv_goto (tgt := 75) S.1 S.2.1 dX7_readsOrder_71 (by decide) ?_
        exact z_zretc S hr hlk hR hS (by decide) hF dX7_readsOrder_75
    · replace hF := z_ct hF hc
      refine lv_bipush (v := (-6)) S.1 S.2.1 dX7_readsOrder_49 (by decide) ?_
      refine lv_goto (tgt := 58) S.1 S.2.1 dX7_readsOrder_51 (by decide) ?_
      refine z_put (k := 26) (i := 0) (f := 17) (ty := .int) S hg hK hR hS hF (by decide) rfl rfl rfl (by decide) wf_X7_181 rfl (by decide +kernel) rfl rfl (Nat.le_of_ble_eq_true rfl) dX7_readsOrder_58 (fun H locs M28 hR hS hF => ?_)
      refine lv_aload_n S.1 S.2.1 dX7_readsOrder_61 rfl (lv_at hl 0 rfl) ?_
      refine z_get (k := 26) (i := 0) (f := 17) (v := .int (M28 26 0 17)) S hK hR (by decide) rfl rfl (by decide) wf_X7_181 rfl dX7_readsOrder_62 ?_
      refine lv_bipush (v := (-6)) S.1 S.2.1 dX7_readsOrder_65 (by decide) ?_
      refine lv_icmp_eq (tgt := 74) S.1 S.2.1 dX7_readsOrder_67 (by decide) (fun hc => ?_) (fun hc => ?_)
      · replace hF := z_ct hF hc
        refine lv_iconst (v := 0) S.1 S.2.1 dX7_readsOrder_74 (by decide) ?_
        exact z_zretc S hr hlk hR hS (by decide) hF dX7_readsOrder_75
      · replace hF := z_cf hF hc
        refine lv_iconst (v := 1) S.1 S.2.1 dX7_readsOrder_70 (by decide) ?_
        refine lv_goto (tgt := 75) S.1 S.2.1 dX7_readsOrder_71 (by decide) ?_
        exact z_zretc S hr hlk hR hS (by decide) hF dX7_readsOrder_75
  · replace hF := z_cf hF hc
    refine lv_aload_n S.1 S.2.1 dX7_readsOrder_18 rfl (lv_at hl 0 rfl) ?_
    refine lv_bipush (v := 58) S.1 S.2.1 dX7_readsOrder_19 (by decide) ?_
    refine z_goi hS hF (fun _ _ ho => va_runV (C := RX7) (n := 1) (As := [.int 58]) (rest := [.ref (g.1 26 0)]) S (kX7_isNext l hg ho) (cwV 1 S.2.2.2.2 (zgV wm_X7_166 oX7_isNext) rfl rfl rfl hX7_isNext ⟨Nat.le_of_ble_eq_true rfl, Nat.le_of_ble_eq_true rfl⟩) ⟨zPc_blind, z_recv hK hR (by decide) rfl rfl, z_pre hK hR⟩ rfl rfl hl.1 rfl (lv_room (Nat.le_of_ble_eq_true rfl)) dX7_readsOrder_21 ⟨Nat.zero_le _, Nat.zero_le _⟩) (fun r30 M29 H locs hR hS hF => ?_)
    refine lv_if_eq (tgt := 34) S.1 S.2.1 dX7_readsOrder_24 (by decide) (fun hc => ?_) (fun hc => ?_)
    · replace hF := z_ct hF hc
      refine lv_bipush (v := (-6)) S.1 S.2.1 dX7_readsOrder_34 (by decide) ?_
      refine z_put (k := 26) (i := 0) (f := 16) (ty := .int) S hg hK hR hS hF (by decide) rfl rfl rfl (by decide) wf_X7_178 rfl (by decide +kernel) rfl rfl (Nat.le_of_ble_eq_true rfl) dX7_readsOrder_36 (fun H locs M31 hR hS hF => ?_)
      refine lv_aload_n S.1 S.2.1 dX7_readsOrder_39 rfl (lv_at hl 0 rfl) ?_
      refine lv_aload_n S.1 S.2.1 dX7_readsOrder_40 rfl (lv_at hl 0 rfl) ?_
      refine z_get (k := 26) (i := 0) (f := 16) (v := .int (M31 26 0 16)) S hK hR (by decide) rfl rfl (by decide) wf_X7_178 rfl dX7_readsOrder_41 ?_
      refine lv_bipush (v := (-6)) S.1 S.2.1 dX7_readsOrder_44 (by decide) ?_
      refine lv_icmp_ne (tgt := 54) S.1 S.2.1 dX7_readsOrder_46 (by decide) (fun hc => ?_) (fun hc => ?_)
      · replace hF := z_cf hF hc
        refine lv_aload_n S.1 S.2.1 dX7_readsOrder_54 rfl (lv_at hl 0 rfl) ?_
        refine z_goi hS hF (fun _ _ ho => va_runV (C := RX7) (n := 0) (As := []) (rest := [.ref (g.1 26 0)]) S (kX7_takeStep l hg ho) (cwV 0 S.2.2.2.2 (zgV wm_X7_175 oX7_takeStep) rfl rfl rfl hX7_takeStep ⟨Nat.le_of_ble_eq_true rfl, Nat.le_of_ble_eq_true rfl⟩) ⟨zPc_blind, z_recv hK hR (by decide) rfl rfl, z_pre hK hR⟩ rfl rfl hl.1 rfl (lv_room (Nat.le_of_ble_eq_true rfl)) dX7_readsOrder_55 ⟨Nat.zero_le _, Nat.zero_le _⟩) (fun r33 M32 H locs hR hS hF => ?_)
        refine z_put (k := 26) (i := 0) (f := 17) (ty := .int) S hg hK hR hS hF (by decide) rfl rfl rfl (by decide) wf_X7_181 rfl (by decide +kernel) rfl rfl (Nat.le_of_ble_eq_true rfl) dX7_readsOrder_58 (fun H locs M34 hR hS hF => ?_)
        refine lv_aload_n S.1 S.2.1 dX7_readsOrder_61 rfl (lv_at hl 0 rfl) ?_
        refine z_get (k := 26) (i := 0) (f := 17) (v := .int (M34 26 0 17)) S hK hR (by decide) rfl rfl (by decide) wf_X7_181 rfl dX7_readsOrder_62 ?_
        refine lv_bipush (v := (-6)) S.1 S.2.1 dX7_readsOrder_65 (by decide) ?_
        refine lv_icmp_eq (tgt := 74) S.1 S.2.1 dX7_readsOrder_67 (by decide) (fun hc => ?_) (fun hc => ?_)
        · replace hF := z_ct hF hc
          refine lv_iconst (v := 0) S.1 S.2.1 dX7_readsOrder_74 (by decide) ?_
          exact z_zretc S hr hlk hR hS (by decide) hF dX7_readsOrder_75
        · replace hF := z_cf hF hc
          refine lv_iconst (v := 1) S.1 S.2.1 dX7_readsOrder_70 (by decide) ?_
          refine lv_goto (tgt := 75) S.1 S.2.1 dX7_readsOrder_71 (by decide) ?_
          exact z_zretc S hr hlk hR hS (by decide) hF dX7_readsOrder_75
      · replace hF := z_ct hF hc
        refine lv_bipush (v := (-6)) S.1 S.2.1 dX7_readsOrder_49 (by decide) ?_
        refine lv_goto (tgt := 58) S.1 S.2.1 dX7_readsOrder_51 (by decide) ?_
        refine z_put (k := 26) (i := 0) (f := 17) (ty := .int) S hg hK hR hS hF (by decide) rfl rfl rfl (by decide) wf_X7_181 rfl (by decide +kernel) rfl rfl (Nat.le_of_ble_eq_true rfl) dX7_readsOrder_58 (fun H locs M35 hR hS hF => ?_)
        refine lv_aload_n S.1 S.2.1 dX7_readsOrder_61 rfl (lv_at hl 0 rfl) ?_
        refine z_get (k := 26) (i := 0) (f := 17) (v := .int (M35 26 0 17)) S hK hR (by decide) rfl rfl (by decide) wf_X7_181 rfl dX7_readsOrder_62 ?_
        refine lv_bipush (v := (-6)) S.1 S.2.1 dX7_readsOrder_65 (by decide) ?_
        refine lv_icmp_eq (tgt := 74) S.1 S.2.1 dX7_readsOrder_67 (by decide) (fun hc => ?_) (fun hc => ?_)
        · replace hF := z_ct hF hc
          refine lv_iconst (v := 0) S.1 S.2.1 dX7_readsOrder_74 (by decide) ?_
          exact z_zretc S hr hlk hR hS (by decide) hF dX7_readsOrder_75
        · replace hF := z_cf hF hc
          refine lv_iconst (v := 1) S.1 S.2.1 dX7_readsOrder_70 (by decide) ?_
          refine lv_goto (tgt := 75) S.1 S.2.1 dX7_readsOrder_71 (by decide) ?_
          exact z_zretc S hr hlk hR hS (by decide) hF dX7_readsOrder_75
    · replace hF := z_cf hF hc
      refine lv_aload_n S.1 S.2.1 dX7_readsOrder_27 rfl (lv_at hl 0 rfl) ?_
      refine z_goi hS hF (fun _ _ ho => va_runV (C := RX7) (n := 0) (As := []) (rest := [.ref (g.1 26 0)]) S (kX7_takeStep l hg ho) (cwV 0 S.2.2.2.2 (zgV wm_X7_175 oX7_takeStep) rfl rfl rfl hX7_takeStep ⟨Nat.le_of_ble_eq_true rfl, Nat.le_of_ble_eq_true rfl⟩) ⟨zPc_blind, z_recv hK hR (by decide) rfl rfl, z_pre hK hR⟩ rfl rfl hl.1 rfl (lv_room (Nat.le_of_ble_eq_true rfl)) dX7_readsOrder_28 ⟨Nat.zero_le _, Nat.zero_le _⟩) (fun r37 M36 H locs hR hS hF => ?_)
      refine lv_goto (tgt := 36) S.1 S.2.1 dX7_readsOrder_31 (by decide) ?_
      refine z_put (k := 26) (i := 0) (f := 16) (ty := .int) S hg hK hR hS hF (by decide) rfl rfl rfl (by decide) wf_X7_178 rfl (by decide +kernel) rfl rfl (Nat.le_of_ble_eq_true rfl) dX7_readsOrder_36 (fun H locs M38 hR hS hF => ?_)
      refine lv_aload_n S.1 S.2.1 dX7_readsOrder_39 rfl (lv_at hl 0 rfl) ?_
      refine lv_aload_n S.1 S.2.1 dX7_readsOrder_40 rfl (lv_at hl 0 rfl) ?_
      refine z_get (k := 26) (i := 0) (f := 16) (v := .int (M38 26 0 16)) S hK hR (by decide) rfl rfl (by decide) wf_X7_178 rfl dX7_readsOrder_41 ?_
      refine lv_bipush (v := (-6)) S.1 S.2.1 dX7_readsOrder_44 (by decide) ?_
      refine lv_icmp_ne (tgt := 54) S.1 S.2.1 dX7_readsOrder_46 (by decide) (fun hc => ?_) (fun hc => ?_)
      · replace hF := z_cf hF hc
        refine lv_aload_n S.1 S.2.1 dX7_readsOrder_54 rfl (lv_at hl 0 rfl) ?_
        refine z_goi hS hF (fun _ _ ho => va_runV (C := RX7) (n := 0) (As := []) (rest := [.ref (g.1 26 0)]) S (kX7_takeStep l hg ho) (cwV 0 S.2.2.2.2 (zgV wm_X7_175 oX7_takeStep) rfl rfl rfl hX7_takeStep ⟨Nat.le_of_ble_eq_true rfl, Nat.le_of_ble_eq_true rfl⟩) ⟨zPc_blind, z_recv hK hR (by decide) rfl rfl, z_pre hK hR⟩ rfl rfl hl.1 rfl (lv_room (Nat.le_of_ble_eq_true rfl)) dX7_readsOrder_55 ⟨Nat.zero_le _, Nat.zero_le _⟩) (fun r40 M39 H locs hR hS hF => ?_)
        refine z_put (k := 26) (i := 0) (f := 17) (ty := .int) S hg hK hR hS hF (by decide) rfl rfl rfl (by decide) wf_X7_181 rfl (by decide +kernel) rfl rfl (Nat.le_of_ble_eq_true rfl) dX7_readsOrder_58 (fun H locs M41 hR hS hF => ?_)
        refine lv_aload_n S.1 S.2.1 dX7_readsOrder_61 rfl (lv_at hl 0 rfl) ?_
        refine z_get (k := 26) (i := 0) (f := 17) (v := .int (M41 26 0 17)) S hK hR (by decide) rfl rfl (by decide) wf_X7_181 rfl dX7_readsOrder_62 ?_
        refine lv_bipush (v := (-6)) S.1 S.2.1 dX7_readsOrder_65 (by decide) ?_
        refine lv_icmp_eq (tgt := 74) S.1 S.2.1 dX7_readsOrder_67 (by decide) (fun hc => ?_) (fun hc => ?_)
        · replace hF := z_ct hF hc
          refine lv_iconst (v := 0) S.1 S.2.1 dX7_readsOrder_74 (by decide) ?_
          exact z_zretc S hr hlk hR hS (by decide) hF dX7_readsOrder_75
        · replace hF := z_cf hF hc
          refine lv_iconst (v := 1) S.1 S.2.1 dX7_readsOrder_70 (by decide) ?_
          refine lv_goto (tgt := 75) S.1 S.2.1 dX7_readsOrder_71 (by decide) ?_
          exact z_zretc S hr hlk hR hS (by decide) hF dX7_readsOrder_75
      · replace hF := z_ct hF hc
        refine lv_bipush (v := (-6)) S.1 S.2.1 dX7_readsOrder_49 (by decide) ?_
        refine lv_goto (tgt := 58) S.1 S.2.1 dX7_readsOrder_51 (by decide) ?_
        refine z_put (k := 26) (i := 0) (f := 17) (ty := .int) S hg hK hR hS hF (by decide) rfl rfl rfl (by decide) wf_X7_181 rfl (by decide +kernel) rfl rfl (Nat.le_of_ble_eq_true rfl) dX7_readsOrder_58 (fun H locs M42 hR hS hF => ?_)
        refine lv_aload_n S.1 S.2.1 dX7_readsOrder_61 rfl (lv_at hl 0 rfl) ?_
        refine z_get (k := 26) (i := 0) (f := 17) (v := .int (M42 26 0 17)) S hK hR (by decide) rfl rfl (by decide) wf_X7_181 rfl dX7_readsOrder_62 ?_
        refine lv_bipush (v := (-6)) S.1 S.2.1 dX7_readsOrder_65 (by decide) ?_
        refine lv_icmp_eq (tgt := 74) S.1 S.2.1 dX7_readsOrder_67 (by decide) (fun hc => ?_) (fun hc => ?_)
        · replace hF := z_ct hF hc
          refine lv_iconst (v := 0) S.1 S.2.1 dX7_readsOrder_74 (by decide) ?_
          exact z_zretc S hr hlk hR hS (by decide) hF dX7_readsOrder_75
        · replace hF := z_cf hF hc
          refine lv_iconst (v := 1) S.1 S.2.1 dX7_readsOrder_70 (by decide) ?_
          refine lv_goto (tgt := 75) S.1 S.2.1 dX7_readsOrder_71 (by decide) ?_
          exact z_zretc S hr hlk hR hS (by decide) hF dX7_readsOrder_75
theorem hX7_findFault : yX7_findFault.cls = RX7 ∧ yX7_findFault.cls ≠ "java/lang/invoke/MethodHandle" ∧ yX7_findFault.cls ≠ "java/lang/invoke/VarHandle" ∧ (parseMethodDescriptor yX7_findFault.desc).map (fun d => d.parameters.length) = some 0 := by decide +kernel
theorem oX7_findFault : Cond.instanceMethod yX7_findFault ∈ zT ∧ Cond.selects RX7 yX7_findFault yX7_findFault ∈ zT ∧ Cond.initialized RX7 ∈ zT ∧ Cond.code yX7_findFault cX7_findFault 1 (some .int) ∈ zT := ⟨wv_X7_findFault, we_X7_findFault, wi_X7, wk_X7_findFault⟩
set_option maxRecDepth 100000 in
set_option maxHeartbeats 4000000 in
theorem kX7_findFault (l : Launch) {g : zGeo} {z : Nat} (hg : zAd g z) {M M' : zM}  {r : Int32} (hF : fX7_findFault M = some (r, M')) : Met l yX7_findFault [.code yX7_findFault cX7_findFault 1 (some .int)] { frames := 4, cells := 0, slots := 0, locals := 87 } (zPc g M [.ref (g.1 26 0)]) (zQi g z r M') 0 0 (zS z) := by
  refine z_enter (cc := cX7_findFault) (maxL := 1) (ret := (some .int)) (by decide) rfl (Nat.le_of_ble_eq_true rfl) ?_
  intro p e s m below meth c S hr hlk hK hR hS ls hl
  have S : CallFix p m c cX7_findFault 1 s _ zT RX7 := S
  have hl : lv_has ls 1 [(0, .ref (g.1 26 0))] := hl
  have L5 : ∀ (k : zM → Option (Int32 × zM)) , (∀ (M : zM) (H : Heap) (locs : List Loc), zR g M H → va_S (zS z) s.heap H locs → ∀ ls : Array Slot, lv_has ls 1 [(0, .ref (g.1 26 0))] → k M  = some (r, M') → W p l e { frames := 4, cells := 0, slots := 0, locals := 87 } s m ([.ref (g.1 26 0)] : List Value).toArray below meth c H locs 0 0 (MQ below (zQi g z r M') ([.ref (g.1 26 0)] : List Value).toArray s 0 0 (zS z)) (F0 m 40 ls [])) → ∀ (n : Nat) (M : zM) (H : Heap) (locs : List Loc), zR g M H → va_S (zS z) s.heap H locs → ∀ ls : Array Slot, lv_has ls 1 [(0, .ref (g.1 26 0))] → fX7_findFault_L5 k n M  = some (r, M') → W p l e { frames := 4, cells := 0, slots := 0, locals := 87 } s m ([.ref (g.1 26 0)] : List Value).toArray below meth c H locs 0 0 (MQ below (zQi g z r M') ([.ref (g.1 26 0)] : List Value).toArray s 0 0 (zS z)) (F0 m 5 ls []) := by
    intro k  hk n
    induction n with
    | zero =>
      intro M H locs hR hS ls hl hF
      cases hF
    | succ n ih =>
      intro M H locs hR hS ls hl hF
      unfold fX7_findFault_L5 at hF
      refine lv_aload_n S.1 S.2.1 dX7_findFault_5 rfl (lv_at hl 0 rfl) ?_
      refine z_goi hS hF (fun _ _ ho => va_runV (C := RX7) (n := 0) (As := []) (rest := []) S (kX7_readsOrder l hg ho) (cwV 0 S.2.2.2.2 (zgV wm_X7_184 oX7_readsOrder) rfl rfl rfl hX7_readsOrder ⟨Nat.le_of_ble_eq_true rfl, Nat.le_of_ble_eq_true rfl⟩) ⟨zPc_blind, z_recv hK hR (by decide) rfl rfl, z_pre hK hR⟩ rfl rfl hl.1 rfl (lv_room (Nat.le_of_ble_eq_true rfl)) dX7_findFault_6 ⟨Nat.zero_le _, Nat.zero_le _⟩) (fun r23 M22 H locs hR hS hF => ?_)
      refine lv_if_ne (tgt := 17) S.1 S.2.1 dX7_findFault_9 (by decide) (fun hc => ?_) (fun hc => ?_)
      · replace hF := z_cf hF hc
        refine lv_aload_n S.1 S.2.1 dX7_findFault_17 rfl (lv_at hl 0 rfl) ?_
        refine z_get (k := 26) (i := 0) (f := 14) (v := .int (M22 26 0 14)) S hK hR (by decide) rfl rfl (by decide) wf_X7_160 rfl dX7_findFault_18 ?_
        refine lv_aload_n S.1 S.2.1 dX7_findFault_21 rfl (lv_at hl 0 rfl) ?_
        refine z_get (k := 26) (i := 0) (f := 7) (v := .int (M22 26 0 7)) S hK hR (by decide) rfl rfl (by decide) wf_X7_148 rfl dX7_findFault_22 ?_
        refine lv_icmp_ne (tgt := 31) S.1 S.2.1 dX7_findFault_25 (by decide) (fun hc => ?_) (fun hc => ?_)
        · replace hF := z_cf hF hc
          refine lv_aload_n S.1 S.2.1 dX7_findFault_31 rfl (lv_at hl 0 rfl) ?_
          refine lv_bipush (v := 59) S.1 S.2.1 dX7_findFault_32 (by decide) ?_
          refine z_goi hS hF (fun _ _ ho => va_runV (C := RX7) (n := 1) (As := [.int 59]) (rest := []) S (kX7_isNext l hg ho) (cwV 1 S.2.2.2.2 (zgV wm_X7_166 oX7_isNext) rfl rfl rfl hX7_isNext ⟨Nat.le_of_ble_eq_true rfl, Nat.le_of_ble_eq_true rfl⟩) ⟨zPc_blind, z_recv hK hR (by decide) rfl rfl, z_pre hK hR⟩ rfl rfl hl.1 rfl (lv_room (Nat.le_of_ble_eq_true rfl)) dX7_findFault_34 ⟨Nat.zero_le _, Nat.zero_le _⟩) (fun r25 M24 H locs hR hS hF => ?_)
          refine lv_if_ne (tgt := 5) S.1 S.2.1 dX7_findFault_37 (by decide) (fun hc => ?_) (fun hc => ?_)
          · replace hF := z_cf hF hc
            exact ih _ _ _ hR hS _ (lv_sub hl [0] rfl) hF
          · replace hF := z_ct hF hc
            exact hk _ _ _ hR hS _ (lv_sub hl [0] rfl) hF
        · replace hF := z_ct hF hc
          refine lv_bipush (v := (-6)) S.1 S.2.1 dX7_findFault_28 (by decide) ?_
          exact z_iret S hr hlk hR hS hF dX7_findFault_30
      · replace hF := z_ct hF hc
        refine lv_aload_n S.1 S.2.1 dX7_findFault_12 rfl (lv_at hl 0 rfl) ?_
        refine z_get (k := 26) (i := 0) (f := 14) (v := .int (M22 26 0 14)) S hK hR (by decide) rfl rfl (by decide) wf_X7_160 rfl dX7_findFault_13 ?_
        exact z_iret S hr hlk hR hS hF dX7_findFault_16
  unfold fX7_findFault at hF
  refine lv_aload_n S.1 S.2.1 dX7_findFault_0 rfl (lv_at hl 0 rfl) ?_
  refine lv_iconst (v := 0) S.1 S.2.1 dX7_findFault_1 (by decide) ?_
  refine z_put (k := 26) (i := 0) (f := 14) (ty := .int) S hg hK hR hS hF (by decide) rfl rfl rfl (by decide) wf_X7_160 rfl (by decide +kernel) rfl rfl (Nat.le_of_ble_eq_true rfl) dX7_findFault_2 (fun H locs M21 hR hS hF => ?_)
  refine L5 _ (fun M26 H locs hR hS ls hl hF => ?_) _ _ _ _ hR hS _ (lv_sub hl [0] rfl) hF
  refine lv_aload_n S.1 S.2.1 dX7_findFault_40 rfl (lv_at hl 0 rfl) ?_
  refine z_get (k := 26) (i := 0) (f := 14) (v := .int (M26 26 0 14)) S hK hR (by decide) rfl rfl (by decide) wf_X7_160 rfl dX7_findFault_41 ?_
  exact z_iret S hr hlk hR hS hF dX7_findFault_44
theorem hX7_fault : yX7_fault.cls = RX7 ∧ yX7_fault.cls ≠ "java/lang/invoke/MethodHandle" ∧ yX7_fault.cls ≠ "java/lang/invoke/VarHandle" ∧ (parseMethodDescriptor yX7_fault.desc).map (fun d => d.parameters.length) = some 0 := by decide +kernel
theorem oX7_fault : Cond.instanceMethod yX7_fault ∈ zT ∧ Cond.selects RX7 yX7_fault yX7_fault ∈ zT ∧ Cond.initialized RX7 ∈ zT ∧ Cond.code yX7_fault cX7_fault 1 (some .int) ∈ zT := ⟨wv_X7_fault, we_X7_fault, wi_X7, wk_X7_fault⟩
set_option maxRecDepth 100000 in
set_option maxHeartbeats 4000000 in
theorem kX7_fault (l : Launch) {g : zGeo} {z : Nat} (hg : zAd g z) {M M' : zM}  {r : Int32} (hF : fX7_fault M = some (r, M')) : Met l yX7_fault [.code yX7_fault cX7_fault 1 (some .int)] { frames := 5, cells := 0, slots := 0, locals := 107 } (zPc g M [.ref (g.1 26 0)]) (zQi g z r M') 0 0 (zS z) := by
  refine z_enter (cc := cX7_fault) (maxL := 1) (ret := (some .int)) (by decide) rfl (Nat.le_of_ble_eq_true rfl) ?_
  intro p e s m below meth c S hr hlk hK hR hS ls hl
  have S : CallFix p m c cX7_fault 1 s _ zT RX7 := S
  have hl : lv_has ls 1 [(0, .ref (g.1 26 0))] := hl
  unfold fX7_fault at hF
  refine lv_aload_n S.1 S.2.1 dX7_fault_0 rfl (lv_at hl 0 rfl) ?_
  refine z_goi hS hF (fun _ _ ho => va_runV (C := RX7) (n := 0) (As := []) (rest := []) S (kX7_findFault l hg ho) (cwV 0 S.2.2.2.2 (zgV wm_X7_188 oX7_findFault) rfl rfl rfl hX7_findFault ⟨Nat.le_of_ble_eq_true rfl, Nat.le_of_ble_eq_true rfl⟩) ⟨zPc_blind, z_recv hK hR (by decide) rfl rfl, z_pre hK hR⟩ rfl rfl hl.1 rfl (lv_room (Nat.le_of_ble_eq_true rfl)) dX7_fault_1 ⟨Nat.zero_le _, Nat.zero_le _⟩) (fun r22 M21 H locs hR hS hF => ?_)
  exact z_iret S hr hlk hR hS hF dX7_fault_4
theorem hX7_carryOut : yX7_carryOut.cls = RX7 ∧ yX7_carryOut.cls ≠ "java/lang/invoke/MethodHandle" ∧ yX7_carryOut.cls ≠ "java/lang/invoke/VarHandle" ∧ (parseMethodDescriptor yX7_carryOut.desc).map (fun d => d.parameters.length) = some 0 := by decide +kernel
theorem oX7_carryOut : Cond.instanceMethod yX7_carryOut ∈ zT ∧ Cond.selects RX7 yX7_carryOut yX7_carryOut ∈ zT ∧ Cond.initialized RX7 ∈ zT ∧ Cond.code yX7_carryOut cX7_carryOut 3 (some .int) ∈ zT := ⟨wv_X7_carryOut, we_X7_carryOut, wi_X7, wk_X7_carryOut⟩
set_option maxRecDepth 100000 in
set_option maxHeartbeats 4000000 in
theorem kX7_carryOut (l : Launch) {g : zGeo} {z : Nat} (hg : zAd g z) {M M' : zM}  {r : Int32} (hF : fX7_carryOut M = some (r, M')) : Met l yX7_carryOut [.code yX7_carryOut cX7_carryOut 3 (some .int)] { frames := 5, cells := 0, slots := 0, locals := 107 } (zPc g M [.ref (g.1 26 0)]) (zQi g z r M') 0 0 (zS z) := by
  refine z_enter (cc := cX7_carryOut) (maxL := 3) (ret := (some .int)) (by decide) rfl (Nat.le_of_ble_eq_true rfl) ?_
  intro p e s m below meth c S hr hlk hK hR hS ls hl
  have S : CallFix p m c cX7_carryOut 3 s _ zT RX7 := S
  have hl : lv_has ls 3 [(0, .ref (g.1 26 0))] := hl
  have L25 : ∀ (k : zM → Int32 → Int32 → Option (Int32 × zM)) , (∀ (M : zM) (a1 : Int32) (a2 : Int32) (H : Heap) (locs : List Loc), zR g M H → va_S (zS z) s.heap H locs → ∀ ls : Array Slot, lv_has ls 3 [(0, .ref (g.1 26 0)), (1, .int a1), (2, .int a2)] → k M a1 a2 = some (r, M') → W p l e { frames := 5, cells := 0, slots := 0, locals := 107 } s m ([.ref (g.1 26 0)] : List Value).toArray below meth c H locs 0 0 (MQ below (zQi g z r M') ([.ref (g.1 26 0)] : List Value).toArray s 0 0 (zS z)) (F0 m 104 ls [])) → ∀ (n : Nat) (M : zM) (a1 : Int32) (a2 : Int32) (H : Heap) (locs : List Loc), zR g M H → va_S (zS z) s.heap H locs → ∀ ls : Array Slot, lv_has ls 3 [(0, .ref (g.1 26 0)), (1, .int a1), (2, .int a2)] → fX7_carryOut_L25 k n M a1 a2 = some (r, M') → W p l e { frames := 5, cells := 0, slots := 0, locals := 107 } s m ([.ref (g.1 26 0)] : List Value).toArray below meth c H locs 0 0 (MQ below (zQi g z r M') ([.ref (g.1 26 0)] : List Value).toArray s 0 0 (zS z)) (F0 m 25 ls []) := by
    intro k  hk n
    induction n with
    | zero =>
      intro M a1 a2 H locs hR hS ls hl hF
      cases hF
    | succ n ih =>
      intro M a1 a2 H locs hR hS ls hl hF
      unfold fX7_carryOut_L25 at hF
      refine lv_iload_n S.1 S.2.1 dX7_carryOut_25 rfl (lv_at hl 2 rfl) ?_
      refine lv_if_eq (tgt := 104) S.1 S.2.1 dX7_carryOut_26 (by decide) (fun hc => ?_) (fun hc => ?_)
      · replace hF := z_ct hF hc
        exact hk _ _ _ _ _ hR hS _ (lv_sub hl [0, 1, 2] rfl) hF
      · replace hF := z_cf hF hc
        refine lv_aload_n S.1 S.2.1 dX7_carryOut_29 rfl (lv_at hl 0 rfl) ?_
        refine z_get (k := 26) (i := 0) (f := 14) (v := .int (M 26 0 14)) S hK hR (by decide) rfl rfl (by decide) wf_X7_160 rfl dX7_carryOut_30 ?_
        refine lv_aload_n S.1 S.2.1 dX7_carryOut_33 rfl (lv_at hl 0 rfl) ?_
        refine z_get (k := 26) (i := 0) (f := 7) (v := .int (M 26 0 7)) S hK hR (by decide) rfl rfl (by decide) wf_X7_148 rfl dX7_carryOut_34 ?_
        refine lv_icmp_ge (tgt := 104) S.1 S.2.1 dX7_carryOut_37 (by decide) (fun hc => ?_) (fun hc => ?_)
        · replace hF := z_ct hF hc
          exact hk _ _ _ _ _ hR hS _ (lv_sub hl [0, 1, 2] rfl) hF
        · replace hF := z_cf hF hc
          refine lv_aload_n S.1 S.2.1 dX7_carryOut_40 rfl (lv_at hl 0 rfl) ?_
          refine z_goi hS hF (fun _ _ ho => va_runV (C := RX7) (n := 0) (As := []) (rest := []) S (kX7_readsOrder l hg ho) (cwV 0 S.2.2.2.2 (zgV wm_X7_184 oX7_readsOrder) rfl rfl rfl hX7_readsOrder ⟨Nat.le_of_ble_eq_true rfl, Nat.le_of_ble_eq_true rfl⟩) ⟨zPc_blind, z_recv hK hR (by decide) rfl rfl, z_pre hK hR⟩ rfl rfl hl.1 rfl (lv_room (Nat.le_of_ble_eq_true rfl)) dX7_carryOut_41 ⟨Nat.zero_le _, Nat.zero_le _⟩) (fun r26 M25 H locs hR hS hF => ?_)
          refine lv_pop S.1 S.2.1 dX7_carryOut_44 rfl ?_
          refine lv_aload_n S.1 S.2.1 dX7_carryOut_45 rfl (lv_at hl 0 rfl) ?_
          refine lv_bipush (v := 59) S.1 S.2.1 dX7_carryOut_46 (by decide) ?_
          refine z_goi hS hF (fun _ _ ho => va_runV (C := RX7) (n := 1) (As := [.int 59]) (rest := []) S (kX7_isNext l hg ho) (cwV 1 S.2.2.2.2 (zgV wm_X7_166 oX7_isNext) rfl rfl rfl hX7_isNext ⟨Nat.le_of_ble_eq_true rfl, Nat.le_of_ble_eq_true rfl⟩) ⟨zPc_blind, z_recv hK hR (by decide) rfl rfl, z_pre hK hR⟩ rfl rfl hl.1 rfl (lv_room (Nat.le_of_ble_eq_true rfl)) dX7_carryOut_48 ⟨Nat.zero_le _, Nat.zero_le _⟩) (fun r28 M27 H locs hR hS hF => ?_)
          refine lv_pop S.1 S.2.1 dX7_carryOut_51 rfl ?_
          refine lv_aload_n S.1 S.2.1 dX7_carryOut_52 rfl (lv_at hl 0 rfl) ?_
          refine lv_aload_n S.1 S.2.1 dX7_carryOut_53 rfl (lv_at hl 0 rfl) ?_
          refine z_get (k := 26) (i := 0) (f := 15) (v := .int (M27 26 0 15)) S hK hR (by decide) rfl rfl (by decide) wf_X7_172 rfl dX7_carryOut_54 ?_
          refine lv_aload_n S.1 S.2.1 dX7_carryOut_57 rfl (lv_at hl 0 rfl) ?_
          refine z_get (k := 26) (i := 0) (f := 16) (v := .int (M27 26 0 16)) S hK hR (by decide) rfl rfl (by decide) wf_X7_178 rfl dX7_carryOut_58 ?_
          refine lv_aload_n S.1 S.2.1 dX7_carryOut_61 rfl (lv_at hl 0 rfl) ?_
          refine z_get (k := 26) (i := 0) (f := 17) (v := .int (M27 26 0 17)) S hK hR (by decide) rfl rfl (by decide) wf_X7_181 rfl dX7_carryOut_62 ?_
          refine z_goi hS hF (fun _ _ ho => va_runV (C := RX7) (n := 3) (As := [.int (M27 26 0 15), .int (M27 26 0 16), .int (M27 26 0 17)]) (rest := []) S (kX7_whyNotOrdered l hg ho) (cwV 3 S.2.2.2.2 (zgV wm_X7_120 oX7_whyNotOrdered) rfl rfl rfl hX7_whyNotOrdered ⟨Nat.le_of_ble_eq_true rfl, Nat.le_of_ble_eq_true rfl⟩) ⟨zPc_blind, z_recv hK hR (by decide) rfl rfl, z_pre hK hR⟩ rfl rfl hl.1 rfl (lv_room (Nat.le_of_ble_eq_true rfl)) dX7_carryOut_65 ⟨Nat.zero_le _, Nat.zero_le _⟩) (fun r30 M29 H locs hR hS hF => ?_)
          refine lv_if_ne (tgt := 75) S.1 S.2.1 dX7_carryOut_68 (by decide) (fun hc => ?_) (fun hc => ?_)
          · replace hF := z_cf hF hc
            refine lv_iconst (v := 0) S.1 S.2.1 dX7_carryOut_75 (by decide) ?_
            refine lv_istore_n (lv' := [(2, .int 0), (0, .ref (g.1 26 0)), (1, .int a1)]) S.1 S.2.1 dX7_carryOut_76 rfl hl (by decide) rfl (fun ls hl => ?_)
            refine lv_iload_n S.1 S.2.1 dX7_carryOut_77 rfl (lv_at hl 0 rfl) ?_
            refine lv_if_eq (tgt := 25) S.1 S.2.1 dX7_carryOut_78 (by decide) (fun _ => ?_) (fun hc => absurd hc (by decide))
            exact ih _ _ _ _ _ hR hS _ (lv_sub hl [1, 2, 0] rfl) hF
          · replace hF := z_ct hF hc
            refine lv_iconst (v := 1) S.1 S.2.1 dX7_carryOut_71 (by decide) ?_
            refine lv_goto (tgt := 76) S.1 S.2.1 dX7_carryOut_72 (by decide) ?_
            refine lv_istore_n (lv' := [(2, .int 1), (0, .ref (g.1 26 0)), (1, .int a1)]) S.1 S.2.1 dX7_carryOut_76 rfl hl (by decide) rfl (fun ls hl => ?_)
            refine lv_iload_n S.1 S.2.1 dX7_carryOut_77 rfl (lv_at hl 0 rfl) ?_
            refine lv_if_eq (tgt := 25) S.1 S.2.1 dX7_carryOut_78 (by decide) (fun hc => absurd hc (by decide)) (fun _ => ?_)
            refine lv_aload_n S.1 S.2.1 dX7_carryOut_81 rfl (lv_at hl 1 rfl) ?_
            refine lv_aload_n S.1 S.2.1 dX7_carryOut_82 rfl (lv_at hl 1 rfl) ?_
            refine z_get (k := 26) (i := 0) (f := 15) (v := .int (M29 26 0 15)) S hK hR (by decide) rfl rfl (by decide) wf_X7_172 rfl dX7_carryOut_83 ?_
            refine lv_aload_n S.1 S.2.1 dX7_carryOut_86 rfl (lv_at hl 1 rfl) ?_
            refine z_get (k := 26) (i := 0) (f := 16) (v := .int (M29 26 0 16)) S hK hR (by decide) rfl rfl (by decide) wf_X7_178 rfl dX7_carryOut_87 ?_
            refine lv_aload_n S.1 S.2.1 dX7_carryOut_90 rfl (lv_at hl 1 rfl) ?_
            refine z_get (k := 26) (i := 0) (f := 17) (v := .int (M29 26 0 17)) S hK hR (by decide) rfl rfl (by decide) wf_X7_181 rfl dX7_carryOut_91 ?_
            refine z_goi hS hF (fun _ _ ho => va_runV (C := RX7) (n := 3) (As := [.int (M29 26 0 15), .int (M29 26 0 16), .int (M29 26 0 17)]) (rest := []) S (kX7_orders l hg ho) (cwV 3 S.2.2.2.2 (zgV wm_X7_123 oX7_orders) rfl rfl rfl hX7_orders ⟨Nat.le_of_ble_eq_true rfl, Nat.le_of_ble_eq_true rfl⟩) ⟨zPc_blind, z_recv hK hR (by decide) rfl rfl, z_pre hK hR⟩ rfl rfl hl.1 rfl (lv_room (Nat.le_of_ble_eq_true rfl)) dX7_carryOut_94 ⟨Nat.zero_le _, Nat.zero_le _⟩) (fun r32 M31 H locs hR hS hF => ?_)
            refine lv_pop S.1 S.2.1 dX7_carryOut_97 rfl ?_
            obtain ⟨v33, ev33, hF⟩ := zL_out hF
            refine lv_iinc (v := v33) (lv' := [(1, .int v33), (2, .int 1), (0, .ref (g.1 26 0))]) S.1 S.2.1 dX7_carryOut_98 hl (k := 2) rfl (by rw [← ev33]; rfl) (by decide) rfl (fun ls hl => ?_)
            refine lv_goto (tgt := 25) S.1 S.2.1 dX7_carryOut_101 (by decide) ?_
            exact ih _ _ _ _ _ hR hS _ (lv_sub hl [2, 0, 1] rfl) hF
  unfold fX7_carryOut at hF
  refine lv_aload_n S.1 S.2.1 dX7_carryOut_0 rfl (lv_at hl 0 rfl) ?_
  refine z_goi hS hF (fun _ _ ho => va_runV (C := RX7) (n := 0) (As := []) (rest := []) S (kX7_findFault l hg ho) (cwV 0 S.2.2.2.2 (zgV wm_X7_188 oX7_findFault) rfl rfl rfl hX7_findFault ⟨Nat.le_of_ble_eq_true rfl, Nat.le_of_ble_eq_true rfl⟩) ⟨zPc_blind, z_recv hK hR (by decide) rfl rfl, z_pre hK hR⟩ rfl rfl hl.1 rfl (lv_room (Nat.le_of_ble_eq_true rfl)) dX7_carryOut_1 ⟨Nat.zero_le _, Nat.zero_le _⟩) (fun r22 M21 H locs hR hS hF => ?_)
  refine lv_bipush (v := (-6)) S.1 S.2.1 dX7_carryOut_4 (by decide) ?_
  refine lv_icmp_eq (tgt := 12) S.1 S.2.1 dX7_carryOut_6 (by decide) (fun hc => ?_) (fun hc => ?_)
  · replace hF := z_ct hF hc
    refine lv_aload_n S.1 S.2.1 dX7_carryOut_12 rfl (lv_at hl 0 rfl) ?_
    refine z_gov hS hF (fun _ _ ho => va_runV (C := RX7) (n := 0) (As := []) (rest := []) S (kX7_record l hg ho) (cwV 0 S.2.2.2.2 (zgV wm_X7_111 oX7_record) rfl rfl rfl hX7_record ⟨Nat.le_of_ble_eq_true rfl, Nat.le_of_ble_eq_true rfl⟩) ⟨zPc_blind, z_recv hK hR (by decide) rfl rfl, z_pre hK hR⟩ rfl rfl hl.1 rfl (lv_room (Nat.le_of_ble_eq_true rfl)) dX7_carryOut_13 ⟨Nat.zero_le _, Nat.zero_le _⟩) (fun M23 H locs hR hS hF => ?_)
    refine lv_iconst (v := 0) S.1 S.2.1 dX7_carryOut_16 (by decide) ?_
    refine lv_istore_n (lv' := [(1, .int 0), (0, .ref (g.1 26 0))]) S.1 S.2.1 dX7_carryOut_17 rfl hl (by decide) rfl (fun ls hl => ?_)
    refine lv_aload_n S.1 S.2.1 dX7_carryOut_18 rfl (lv_at hl 1 rfl) ?_
    refine lv_iconst (v := 0) S.1 S.2.1 dX7_carryOut_19 (by decide) ?_
    refine z_put (k := 26) (i := 0) (f := 14) (ty := .int) S hg hK hR hS hF (by decide) rfl rfl rfl (by decide) wf_X7_160 rfl (by decide +kernel) rfl rfl (Nat.le_of_ble_eq_true rfl) dX7_carryOut_20 (fun H locs M24 hR hS hF => ?_)
    refine lv_iconst (v := 1) S.1 S.2.1 dX7_carryOut_23 (by decide) ?_
    refine lv_istore_n (lv' := [(2, .int 1), (1, .int 0), (0, .ref (g.1 26 0))]) S.1 S.2.1 dX7_carryOut_24 rfl hl (by decide) rfl (fun ls hl => ?_)
    refine L25 _ (fun M34 v35 v36 H locs hR hS ls hl hF => ?_) _ _ _ _ _ _ hR hS _ (lv_sub hl [2, 1, 0] rfl) hF
    refine lv_aload_n S.1 S.2.1 dX7_carryOut_104 rfl (lv_at hl 0 rfl) ?_
    refine lv_iconst (v := 0) S.1 S.2.1 dX7_carryOut_105 (by decide) ?_
    refine z_put (k := 26) (i := 0) (f := 7) (ty := .int) S hg hK hR hS hF (by decide) rfl rfl rfl (by decide) wf_X7_148 rfl (by decide +kernel) rfl rfl (Nat.le_of_ble_eq_true rfl) dX7_carryOut_106 (fun H locs M37 hR hS hF => ?_)
    refine lv_iload_n S.1 S.2.1 dX7_carryOut_109 rfl (lv_at hl 1 rfl) ?_
    exact z_iret S hr hlk hR hS hF dX7_carryOut_110
  · replace hF := z_cf hF hc
    refine lv_bipush (v := (-3)) S.1 S.2.1 dX7_carryOut_9 (by decide) ?_
    exact z_iret S hr hlk hR hS hF dX7_carryOut_11
theorem hX7_undo : yX7_undo.cls = RX7 ∧ yX7_undo.cls ≠ "java/lang/invoke/MethodHandle" ∧ yX7_undo.cls ≠ "java/lang/invoke/VarHandle" ∧ (parseMethodDescriptor yX7_undo.desc).map (fun d => d.parameters.length) = some 0 := by decide +kernel
theorem oX7_undo : Cond.instanceMethod yX7_undo ∈ zT ∧ Cond.selects RX7 yX7_undo yX7_undo ∈ zT ∧ Cond.initialized RX7 ∈ zT ∧ Cond.code yX7_undo cX7_undo 1 (some .int) ∈ zT := ⟨wv_X7_undo, we_X7_undo, wi_X7, wk_X7_undo⟩
set_option maxRecDepth 100000 in
set_option maxHeartbeats 4000000 in
theorem kX7_undo (l : Launch) {g : zGeo} {z : Nat} (hg : zAd g z) {M M' : zM}  {r : Int32} (hF : fX7_undo M = some (r, M')) : Met l yX7_undo [.code yX7_undo cX7_undo 1 (some .int)] { frames := 1, cells := 0, slots := 0, locals := 24 } (zPc g M [.ref (g.1 26 0)]) (zQi g z r M') 0 0 (zS z) := by
  refine z_enter (cc := cX7_undo) (maxL := 1) (ret := (some .int)) (by decide) rfl (Nat.le_of_ble_eq_true rfl) ?_
  intro p e s m below meth c S hr hlk hK hR hS ls hl
  have S : CallFix p m c cX7_undo 1 s _ zT RX7 := S
  have hl : lv_has ls 1 [(0, .ref (g.1 26 0))] := hl
  unfold fX7_undo at hF
  refine lv_aload_n S.1 S.2.1 dX7_undo_0 rfl (lv_at hl 0 rfl) ?_
  refine z_get (k := 26) (i := 0) (f := 3) (v := .int (M 26 0 3)) S hK hR (by decide) rfl rfl (by decide) wf_X7_31 rfl dX7_undo_1 ?_
  refine lv_if_ne (tgt := 10) S.1 S.2.1 dX7_undo_4 (by decide) (fun hc => ?_) (fun hc => ?_)
  · replace hF := z_cf hF hc
    refine lv_aload_n S.1 S.2.1 dX7_undo_10 rfl (lv_at hl 0 rfl) ?_
    refine lv_dup S.1 S.2.1 dX7_undo_11 rfl ?_
    refine z_get (k := 26) (i := 0) (f := 3) (v := .int (M 26 0 3)) S hK hR (by decide) rfl rfl (by decide) wf_X7_31 rfl dX7_undo_12 ?_
    refine lv_iconst (v := 1) S.1 S.2.1 dX7_undo_15 (by decide) ?_
    refine lv_isub S.1 S.2.1 dX7_undo_16 ?_
    refine z_put (k := 26) (i := 0) (f := 3) (ty := .int) S hg hK hR hS hF (by decide) rfl rfl rfl (by decide) wf_X7_31 rfl (by decide +kernel) rfl rfl (Nat.le_of_ble_eq_true rfl) dX7_undo_17 (fun H locs M21 hR hS hF => ?_)
    refine lv_aload_n S.1 S.2.1 dX7_undo_20 rfl (lv_at hl 0 rfl) ?_
    refine z_get (k := 26) (i := 0) (f := 2) (v := .ref (g.1 29 0)) S hK hR (by decide) rfl rfl (by decide) wf_X7_16 rfl dX7_undo_21 ?_
    refine lv_aload_n S.1 S.2.1 dX7_undo_24 rfl (lv_at hl 0 rfl) ?_
    refine z_get (k := 26) (i := 0) (f := 3) (v := .int (M21 26 0 3)) S hK hR (by decide) rfl rfl (by decide) wf_X7_31 rfl dX7_undo_25 ?_
    refine lv_sipush (v := 268) S.1 S.2.1 dX7_undo_28 (by decide) ?_
    refine lv_imul S.1 S.2.1 dX7_undo_31 ?_
    refine lv_aload_n S.1 S.2.1 dX7_undo_32 rfl (lv_at hl 0 rfl) ?_
    refine z_get (k := 26) (i := 0) (f := 0) (v := .ref (g.1 27 0)) S hK hR (by decide) rfl rfl (by decide) wf_X7_7 rfl dX7_undo_33 ?_
    refine lv_iconst (v := 0) S.1 S.2.1 dX7_undo_36 (by decide) ?_
    refine z_gov hS hF (fun _ _ ho => va_runS (n := 4) (As := [.ref (g.1 29 0), .int ((M21 26 0 3) * 268), .ref (g.1 27 0), .int 0]) (rest := []) S (kX7_moves l hg (by decide) rfl (by decide) rfl ho) (va_cwS 4 S.2.2.2.2 (zgS wm_X7_35 oX7_moves) rfl rfl rfl hX7_moves.2 ⟨Nat.le_of_ble_eq_true rfl, Nat.le_of_ble_eq_true rfl⟩) ⟨zPc_blind, z_pre hK hR⟩ rfl rfl hl.1 rfl (lv_room (Nat.le_of_ble_eq_true rfl)) dX7_undo_37 ⟨Nat.zero_le _, Nat.zero_le _⟩) (fun M22 H locs hR hS hF => ?_)
    refine lv_aload_n S.1 S.2.1 dX7_undo_40 rfl (lv_at hl 0 rfl) ?_
    refine z_get (k := 26) (i := 0) (f := 3) (v := .int (M22 26 0 3)) S hK hR (by decide) rfl rfl (by decide) wf_X7_31 rfl dX7_undo_41 ?_
    exact z_iret S hr hlk hR hS hF dX7_undo_44
  · replace hF := z_ct hF hc
    refine lv_bipush (v := (-5)) S.1 S.2.1 dX7_undo_7 (by decide) ?_
    exact z_iret S hr hlk hR hS hF dX7_undo_9
theorem hX7_save : yX7_save.cls = RX7 ∧ yX7_save.cls ≠ "java/lang/invoke/MethodHandle" ∧ yX7_save.cls ≠ "java/lang/invoke/VarHandle" ∧ (parseMethodDescriptor yX7_save.desc).map (fun d => d.parameters.length) = some 1 := by decide +kernel
theorem oX7_save : Cond.instanceMethod yX7_save ∈ zT ∧ Cond.selects RX7 yX7_save yX7_save ∈ zT ∧ Cond.initialized RX7 ∈ zT ∧ Cond.code yX7_save cX7_save 2 (some .int) ∈ zT := ⟨wv_X7_save, we_X7_save, wi_X7, wk_X7_save⟩
set_option maxRecDepth 100000 in
set_option maxHeartbeats 4000000 in
theorem kX7_save (l : Launch) {g : zGeo} {z : Nat} (hg : zAd g z) {M M' : zM} {v1 : Int32} {r : Int32} (hF : fX7_save M v1 = some (r, M')) : Met l yX7_save [.code yX7_save cX7_save 2 (some .int)] { frames := 1, cells := 0, slots := 0, locals := 24 } (zPc g M [.ref (g.1 26 0), .int v1]) (zQi g z r M') 0 0 (zS z) := by
  refine z_enter (cc := cX7_save) (maxL := 2) (ret := (some .int)) (by decide) rfl (Nat.le_of_ble_eq_true rfl) ?_
  intro p e s m below meth c S hr hlk hK hR hS ls hl
  have S : CallFix p m c cX7_save 2 s _ zT RX7 := S
  have hl : lv_has ls 2 [(0, .ref (g.1 26 0)), (1, .int v1)] := hl
  unfold fX7_save at hF
  refine lv_iload_n S.1 S.2.1 dX7_save_0 rfl (lv_at hl 1 rfl) ?_
  refine lv_iconst (v := 0) S.1 S.2.1 dX7_save_1 (by decide) ?_
  refine lv_iconst (v := 1) S.1 S.2.1 dX7_save_2 (by decide) ?_
  refine z_goi hS hF (fun _ _ ho => va_runS (n := 3) (As := [.int v1, .int 0, .int 1]) (rest := []) S (kX7_within l hg ho) (va_cwS 3 S.2.2.2.2 (zgS wm_X7_39 oX7_within) rfl rfl rfl hX7_within.2 ⟨Nat.le_of_ble_eq_true rfl, Nat.le_of_ble_eq_true rfl⟩) ⟨zPc_blind, z_pre hK hR⟩ rfl rfl hl.1 rfl (lv_room (Nat.le_of_ble_eq_true rfl)) dX7_save_3 ⟨Nat.zero_le _, Nat.zero_le _⟩) (fun r22 M21 H locs hR hS hF => ?_)
  refine lv_if_ne (tgt := 12) S.1 S.2.1 dX7_save_6 (by decide) (fun hc => ?_) (fun hc => ?_)
  · replace hF := z_cf hF hc
    refine lv_aload_n S.1 S.2.1 dX7_save_12 rfl (lv_at hl 0 rfl) ?_
    refine z_get (k := 26) (i := 0) (f := 0) (v := .ref (g.1 27 0)) S hK hR (by decide) rfl rfl (by decide) wf_X7_7 rfl dX7_save_13 ?_
    refine lv_iconst (v := 0) S.1 S.2.1 dX7_save_16 (by decide) ?_
    refine lv_aload_n S.1 S.2.1 dX7_save_17 rfl (lv_at hl 0 rfl) ?_
    refine z_get (k := 26) (i := 0) (f := 4) (v := .ref (g.1 30 0)) S hK hR (by decide) rfl rfl (by decide) wf_X7_19 rfl dX7_save_18 ?_
    refine lv_sipush (v := 268) S.1 S.2.1 dX7_save_21 (by decide) ?_
    refine lv_iload_n S.1 S.2.1 dX7_save_24 rfl (lv_at hl 1 rfl) ?_
    refine lv_imul S.1 S.2.1 dX7_save_25 ?_
    refine z_gov hS hF (fun _ _ ho => va_runS (n := 4) (As := [.ref (g.1 27 0), .int 0, .ref (g.1 30 0), .int (268 * v1)]) (rest := []) S (kX7_moves l hg (by decide) rfl (by decide) rfl ho) (va_cwS 4 S.2.2.2.2 (zgS wm_X7_35 oX7_moves) rfl rfl rfl hX7_moves.2 ⟨Nat.le_of_ble_eq_true rfl, Nat.le_of_ble_eq_true rfl⟩) ⟨zPc_blind, z_pre hK hR⟩ rfl rfl hl.1 rfl (lv_room (Nat.le_of_ble_eq_true rfl)) dX7_save_26 ⟨Nat.zero_le _, Nat.zero_le _⟩) (fun M23 H locs hR hS hF => ?_)
    refine lv_aload_n S.1 S.2.1 dX7_save_29 rfl (lv_at hl 0 rfl) ?_
    refine z_get (k := 26) (i := 0) (f := 5) (v := .ref (g.1 31 0)) S hK hR (by decide) rfl rfl (by decide) wf_X7_22 rfl dX7_save_30 ?_
    refine lv_iload_n S.1 S.2.1 dX7_save_33 rfl (lv_at hl 1 rfl) ?_
    refine lv_iconst (v := 1) S.1 S.2.1 dX7_save_34 (by decide) ?_
    refine z_iast (k := 31) (i := 0) (n := 2) S hg hK hR hS hF (by decide) rfl dX7_save_35 (fun H locs M24 hR hS hF => ?_)
    refine lv_aload_n S.1 S.2.1 dX7_save_36 rfl (lv_at hl 0 rfl) ?_
    refine z_get (k := 26) (i := 0) (f := 0) (v := .ref (g.1 27 0)) S hK hR (by decide) rfl rfl (by decide) wf_X7_7 rfl dX7_save_37 ?_
    refine lv_iconst (v := 0) S.1 S.2.1 dX7_save_40 (by decide) ?_
    refine z_iald (k := 27) (i := 0) (n := 268) S hK hR hF (by decide) rfl dX7_save_41 (fun hF => ?_)
    exact z_iret S hr hlk hR hS hF dX7_save_42
  · replace hF := z_ct hF hc
    refine lv_bipush (v := (-2)) S.1 S.2.1 dX7_save_9 (by decide) ?_
    exact z_iret S hr hlk hR hS hF dX7_save_11
theorem hX7_restore : yX7_restore.cls = RX7 ∧ yX7_restore.cls ≠ "java/lang/invoke/MethodHandle" ∧ yX7_restore.cls ≠ "java/lang/invoke/VarHandle" ∧ (parseMethodDescriptor yX7_restore.desc).map (fun d => d.parameters.length) = some 1 := by decide +kernel
theorem oX7_restore : Cond.instanceMethod yX7_restore ∈ zT ∧ Cond.selects RX7 yX7_restore yX7_restore ∈ zT ∧ Cond.initialized RX7 ∈ zT ∧ Cond.code yX7_restore cX7_restore 2 (some .int) ∈ zT := ⟨wv_X7_restore, we_X7_restore, wi_X7, wk_X7_restore⟩
set_option maxRecDepth 100000 in
set_option maxHeartbeats 4000000 in
theorem kX7_restore (l : Launch) {g : zGeo} {z : Nat} (hg : zAd g z) {M M' : zM} {v1 : Int32} {r : Int32} (hF : fX7_restore M v1 = some (r, M')) : Met l yX7_restore [.code yX7_restore cX7_restore 2 (some .int)] { frames := 2, cells := 0, slots := 0, locals := 45 } (zPc g M [.ref (g.1 26 0), .int v1]) (zQi g z r M') 0 0 (zS z) := by
  refine z_enter (cc := cX7_restore) (maxL := 2) (ret := (some .int)) (by decide) rfl (Nat.le_of_ble_eq_true rfl) ?_
  intro p e s m below meth c S hr hlk hK hR hS ls hl
  have S : CallFix p m c cX7_restore 2 s _ zT RX7 := S
  have hl : lv_has ls 2 [(0, .ref (g.1 26 0)), (1, .int v1)] := hl
  unfold fX7_restore at hF
  refine lv_iload_n S.1 S.2.1 dX7_restore_0 rfl (lv_at hl 1 rfl) ?_
  refine lv_iconst (v := 0) S.1 S.2.1 dX7_restore_1 (by decide) ?_
  refine lv_iconst (v := 1) S.1 S.2.1 dX7_restore_2 (by decide) ?_
  refine z_goi hS hF (fun _ _ ho => va_runS (n := 3) (As := [.int v1, .int 0, .int 1]) (rest := []) S (kX7_within l hg ho) (va_cwS 3 S.2.2.2.2 (zgS wm_X7_39 oX7_within) rfl rfl rfl hX7_within.2 ⟨Nat.le_of_ble_eq_true rfl, Nat.le_of_ble_eq_true rfl⟩) ⟨zPc_blind, z_pre hK hR⟩ rfl rfl hl.1 rfl (lv_room (Nat.le_of_ble_eq_true rfl)) dX7_restore_3 ⟨Nat.zero_le _, Nat.zero_le _⟩) (fun r22 M21 H locs hR hS hF => ?_)
  refine lv_if_ne (tgt := 12) S.1 S.2.1 dX7_restore_6 (by decide) (fun hc => ?_) (fun hc => ?_)
  · replace hF := z_cf hF hc
    refine lv_aload_n S.1 S.2.1 dX7_restore_12 rfl (lv_at hl 0 rfl) ?_
    refine z_get (k := 26) (i := 0) (f := 5) (v := .ref (g.1 31 0)) S hK hR (by decide) rfl rfl (by decide) wf_X7_22 rfl dX7_restore_13 ?_
    refine lv_iload_n S.1 S.2.1 dX7_restore_16 rfl (lv_at hl 1 rfl) ?_
    refine z_iald (k := 31) (i := 0) (n := 2) S hK hR hF (by decide) rfl dX7_restore_17 (fun hF => ?_)
    refine lv_if_ne (tgt := 24) S.1 S.2.1 dX7_restore_18 (by decide) (fun hc => ?_) (fun hc => ?_)
    · replace hF := z_cf hF hc
      refine lv_aload_n S.1 S.2.1 dX7_restore_24 rfl (lv_at hl 0 rfl) ?_
      refine z_gov hS hF (fun _ _ ho => va_runV (C := RX7) (n := 0) (As := []) (rest := []) S (kX7_record l hg ho) (cwV 0 S.2.2.2.2 (zgV wm_X7_111 oX7_record) rfl rfl rfl hX7_record ⟨Nat.le_of_ble_eq_true rfl, Nat.le_of_ble_eq_true rfl⟩) ⟨zPc_blind, z_recv hK hR (by decide) rfl rfl, z_pre hK hR⟩ rfl rfl hl.1 rfl (lv_room (Nat.le_of_ble_eq_true rfl)) dX7_restore_25 ⟨Nat.zero_le _, Nat.zero_le _⟩) (fun M23 H locs hR hS hF => ?_)
      refine lv_aload_n S.1 S.2.1 dX7_restore_28 rfl (lv_at hl 0 rfl) ?_
      refine z_get (k := 26) (i := 0) (f := 4) (v := .ref (g.1 30 0)) S hK hR (by decide) rfl rfl (by decide) wf_X7_19 rfl dX7_restore_29 ?_
      refine lv_sipush (v := 268) S.1 S.2.1 dX7_restore_32 (by decide) ?_
      refine lv_iload_n S.1 S.2.1 dX7_restore_35 rfl (lv_at hl 1 rfl) ?_
      refine lv_imul S.1 S.2.1 dX7_restore_36 ?_
      refine lv_aload_n S.1 S.2.1 dX7_restore_37 rfl (lv_at hl 0 rfl) ?_
      refine z_get (k := 26) (i := 0) (f := 0) (v := .ref (g.1 27 0)) S hK hR (by decide) rfl rfl (by decide) wf_X7_7 rfl dX7_restore_38 ?_
      refine lv_iconst (v := 0) S.1 S.2.1 dX7_restore_41 (by decide) ?_
      refine z_gov hS hF (fun _ _ ho => va_runS (n := 4) (As := [.ref (g.1 30 0), .int (268 * v1), .ref (g.1 27 0), .int 0]) (rest := []) S (kX7_moves l hg (by decide) rfl (by decide) rfl ho) (va_cwS 4 S.2.2.2.2 (zgS wm_X7_35 oX7_moves) rfl rfl rfl hX7_moves.2 ⟨Nat.le_of_ble_eq_true rfl, Nat.le_of_ble_eq_true rfl⟩) ⟨zPc_blind, z_pre hK hR⟩ rfl rfl hl.1 rfl (lv_room (Nat.le_of_ble_eq_true rfl)) dX7_restore_42 ⟨Nat.zero_le _, Nat.zero_le _⟩) (fun M24 H locs hR hS hF => ?_)
      refine lv_aload_n S.1 S.2.1 dX7_restore_45 rfl (lv_at hl 0 rfl) ?_
      refine z_get (k := 26) (i := 0) (f := 0) (v := .ref (g.1 27 0)) S hK hR (by decide) rfl rfl (by decide) wf_X7_7 rfl dX7_restore_46 ?_
      refine lv_iconst (v := 0) S.1 S.2.1 dX7_restore_49 (by decide) ?_
      refine z_iald (k := 27) (i := 0) (n := 268) S hK hR hF (by decide) rfl dX7_restore_50 (fun hF => ?_)
      exact z_iret S hr hlk hR hS hF dX7_restore_51
    · replace hF := z_ct hF hc
      refine lv_bipush (v := (-5)) S.1 S.2.1 dX7_restore_21 (by decide) ?_
      exact z_iret S hr hlk hR hS hF dX7_restore_23
  · replace hF := z_ct hF hc
    refine lv_bipush (v := (-2)) S.1 S.2.1 dX7_restore_9 (by decide) ?_
    exact z_iret S hr hlk hR hS hF dX7_restore_11
