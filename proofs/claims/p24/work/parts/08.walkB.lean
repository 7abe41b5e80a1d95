theorem hX5_note : yX5_note.cls = RX5 ∧ yX5_note.cls ≠ "java/lang/invoke/MethodHandle" ∧ yX5_note.cls ≠ "java/lang/invoke/VarHandle" ∧ (parseMethodDescriptor yX5_note.desc).map (fun d => d.parameters.length) = some 4 := by decide +kernel
theorem oX5_note : Cond.instanceMethod yX5_note ∈ zT ∧ Cond.selects RX5 yX5_note yX5_note ∈ zT ∧ Cond.initialized RX5 ∈ zT ∧ Cond.code yX5_note cX5_note 5 none ∈ zT := ⟨wv_X5_note, we_X5_note, wi_X5, wk_X5_note⟩
set_option maxRecDepth 100000 in
set_option maxHeartbeats 4000000 in
theorem kX5_note (l : Launch) {g : zGeo} {z : Nat} (hg : zAd g z) {M M' : zM} {j : Nat} (hj : j < 2) {v1 : Int32} {v2 : Int32} {v3 : Int32} {v4 : Int32} {r : Unit} (hF : fX5_note M j v1 v2 v3 v4 = some (r, M')) : Met l yX5_note [.code yX5_note cX5_note 5 none] { frames := 0, cells := 0, slots := 0, locals := 0 } (zPc g M [.ref (g.1 15 j), .int v1, .int v2, .int v3, .int v4]) (zQv g z M') 0 0 (zS z) := by
  refine z_enter (cc := cX5_note) (maxL := 5) (ret := none) (by decide) rfl (Nat.le_of_ble_eq_true rfl) ?_
  intro p e s m below meth c S hr hlk hK hR hS ls hl
  have S : CallFix p m c cX5_note 5 s _ zT RX5 := S
  have hl : lv_has ls 5 [(0, .ref (g.1 15 j)), (1, .int v1), (2, .int v2), (3, .int v3), (4, .int v4)] := hl
  unfold fX5_note at hF
  refine lv_aload_n S.1 S.2.1 dX5_note_0 rfl (lv_at hl 0 rfl) ?_
  refine z_get (k := 15) (i := j) (f := 4) (v := .int (M 15 j 4)) S hK hR hj rfl rfl (by decide) wf_X5_25 rfl dX5_note_1 ?_
  refine lv_if_lt (tgt := 16) S.1 S.2.1 dX5_note_4 (by decide) (fun hc21 => ?_) (fun hc21 => ?_)
  · replace hF := z_ct hF hc21
    exact z_vret S hr hlk hR hS hF dX5_note_16
  · replace hF := z_cf hF hc21
    refine lv_aload_n S.1 S.2.1 dX5_note_7 rfl (lv_at hl 0 rfl) ?_
    refine z_get (k := 15) (i := j) (f := 4) (v := .int (M 15 j 4)) S hK hR hj rfl rfl (by decide) wf_X5_25 rfl dX5_note_8 ?_
    refine lv_bipush (v := 30) S.1 S.2.1 dX5_note_11 (by decide) ?_
    refine lv_icmp_lt (tgt := 17) S.1 S.2.1 dX5_note_13 (by decide) (fun hc22 => ?_) (fun hc22 => ?_)
    · replace hF := z_ct hF hc22
      refine lv_aload_n S.1 S.2.1 dX5_note_17 rfl (lv_at hl 0 rfl) ?_
      refine z_get (k := 15) (i := j) (f := 0) (v := .ref (g.1 16 j)) S hK hR hj rfl rfl (by decide) wf_X5_11 rfl dX5_note_18 ?_
      refine lv_aload_n S.1 S.2.1 dX5_note_21 rfl (lv_at hl 0 rfl) ?_
      refine z_get (k := 15) (i := j) (f := 4) (v := .int (M 15 j 4)) S hK hR hj rfl rfl (by decide) wf_X5_25 rfl dX5_note_22 ?_
      refine lv_iload_n S.1 S.2.1 dX5_note_25 rfl (lv_at hl 1 rfl) ?_
      refine z_iast (k := 16) (i := j) (n := 30) S hg hK hR hS hF hj rfl dX5_note_26 (fun H locs M23 hR hS hF => ?_)
      refine lv_aload_n S.1 S.2.1 dX5_note_27 rfl (lv_at hl 0 rfl) ?_
      refine z_get (k := 15) (i := j) (f := 1) (v := .ref (g.1 17 j)) S hK hR hj rfl rfl (by decide) wf_X5_15 rfl dX5_note_28 ?_
      refine lv_aload_n S.1 S.2.1 dX5_note_31 rfl (lv_at hl 0 rfl) ?_
      refine z_get (k := 15) (i := j) (f := 4) (v := .int (M23 15 j 4)) S hK hR hj rfl rfl (by decide) wf_X5_25 rfl dX5_note_32 ?_
      refine lv_iload_n S.1 S.2.1 dX5_note_35 rfl (lv_at hl 2 rfl) ?_
      refine z_iast (k := 17) (i := j) (n := 30) S hg hK hR hS hF hj rfl dX5_note_36 (fun H locs M24 hR hS hF => ?_)
      refine lv_aload_n S.1 S.2.1 dX5_note_37 rfl (lv_at hl 0 rfl) ?_
      refine z_get (k := 15) (i := j) (f := 2) (v := .ref (g.1 18 j)) S hK hR hj rfl rfl (by decide) wf_X5_18 rfl dX5_note_38 ?_
      refine lv_aload_n S.1 S.2.1 dX5_note_41 rfl (lv_at hl 0 rfl) ?_
      refine z_get (k := 15) (i := j) (f := 4) (v := .int (M24 15 j 4)) S hK hR hj rfl rfl (by decide) wf_X5_25 rfl dX5_note_42 ?_
      refine lv_iload_n S.1 S.2.1 dX5_note_45 rfl (lv_at hl 3 rfl) ?_
      refine z_iast (k := 18) (i := j) (n := 30) S hg hK hR hS hF hj rfl dX5_note_46 (fun H locs M25 hR hS hF => ?_)
      refine lv_aload_n S.1 S.2.1 dX5_note_47 rfl (lv_at hl 0 rfl) ?_
      refine z_get (k := 15) (i := j) (f := 3) (v := .ref (g.1 19 j)) S hK hR hj rfl rfl (by decide) wf_X5_21 rfl dX5_note_48 ?_
      refine lv_aload_n S.1 S.2.1 dX5_note_51 rfl (lv_at hl 0 rfl) ?_
      refine z_get (k := 15) (i := j) (f := 4) (v := .int (M25 15 j 4)) S hK hR hj rfl rfl (by decide) wf_X5_25 rfl dX5_note_52 ?_
      refine lv_iload S.1 S.2.1 dX5_note_55 (lv_at hl 4 rfl) ?_
      refine z_zast (k := 19) (i := j) (n := 30) S hg hK hR hS hF hj rfl dX5_note_57 (fun H locs M26 hR hS hF => ?_)
      refine lv_aload_n S.1 S.2.1 dX5_note_58 rfl (lv_at hl 0 rfl) ?_
      refine lv_dup S.1 S.2.1 dX5_note_59 rfl ?_
      refine z_get (k := 15) (i := j) (f := 4) (v := .int (M26 15 j 4)) S hK hR hj rfl rfl (by decide) wf_X5_25 rfl dX5_note_60 ?_
      refine lv_iconst (v := 1) S.1 S.2.1 dX5_note_63 (by decide) ?_
      refine lv_iadd S.1 S.2.1 dX5_note_64 ?_
      refine z_put (k := 15) (i := j) (f := 4) (ty := .int) S hg hK hR hS hF hj rfl rfl rfl (by decide) wf_X5_25 rfl (by decide +kernel) rfl rfl (Nat.le_of_ble_eq_true rfl) dX5_note_65 (fun H locs M27 hR hS hF => ?_)
      exact z_vret S hr hlk hR hS hF dX5_note_68
    · replace hF := z_cf hF hc22
      exact z_vret S hr hlk hR hS hF dX5_note_16
theorem hX5_measurePair : yX5_measurePair.cls = RX5 ∧ yX5_measurePair.cls ≠ "java/lang/invoke/MethodHandle" ∧ yX5_measurePair.cls ≠ "java/lang/invoke/VarHandle" ∧ (parseMethodDescriptor yX5_measurePair.desc).map (fun d => d.parameters.length) = some 3 := by decide +kernel
theorem oX5_measurePair : Cond.instanceMethod yX5_measurePair ∈ zT ∧ Cond.selects RX5 yX5_measurePair yX5_measurePair ∈ zT ∧ Cond.initialized RX5 ∈ zT ∧ Cond.code yX5_measurePair cX5_measurePair 14 none ∈ zT := ⟨wv_X5_measurePair, we_X5_measurePair, wi_X5, wk_X5_measurePair⟩
set_option maxRecDepth 100000 in
set_option maxHeartbeats 4000000 in
theorem kX5_measurePair (l : Launch) {g : zGeo} {z : Nat} (hg : zAd g z) {M M' : zM} {j : Nat} (hj : j < 2) {j1 : Nat} (hj1 : j1 < 10) {v2 : Int32} {v3 : Int32} {r : Unit} (hF : fX5_measurePair M j j1 v2 v3 = some (r, M')) : Met l yX5_measurePair [.code yX5_measurePair cX5_measurePair 14 none] { frames := 1, cells := 0, slots := 0, locals := 24 } (zPc g M [.ref (g.1 15 j), .ref (g.1 1 j1), .int v2, .int v3]) (zQv g z M') 0 0 (zS z) := by
  refine z_enter (cc := cX5_measurePair) (maxL := 14) (ret := none) (by decide) rfl (Nat.le_of_ble_eq_true rfl) ?_
  intro p e s m below meth c S hr hlk hK hR hS ls hl
  have S : CallFix p m c cX5_measurePair 14 s _ zT RX5 := S
  have hl : lv_has ls 14 [(0, .ref (g.1 15 j)), (1, .ref (g.1 1 j1)), (2, .int v2), (3, .int v3)] := hl
  unfold fX5_measurePair at hF
  refine lv_aload_n S.1 S.2.1 dX5_measurePair_0 rfl (lv_at hl 1 rfl) ?_
  refine z_get (k := 1) (i := j1) (f := 5) (v := .ref (g.1 3 j1)) S hK hR hj1 rfl rfl (by decide) wf_X5_39 rfl dX5_measurePair_1 ?_
  refine lv_iload_n S.1 S.2.1 dX5_measurePair_4 rfl (lv_at hl 2 rfl) ?_
  refine z_iald (k := 3) (i := j1) (n := 6) S hK hR hF hj1 rfl dX5_measurePair_5 (fun hF => ?_)
  refine lv_aload_n S.1 S.2.1 dX5_measurePair_6 rfl (lv_at hl 1 rfl) ?_
  refine z_get (k := 1) (i := j1) (f := 4) (v := .ref (g.1 2 j1)) S hK hR hj1 rfl rfl (by decide) wf_X5_42 rfl dX5_measurePair_7 ?_
  refine lv_iload_n S.1 S.2.1 dX5_measurePair_10 rfl (lv_at hl 2 rfl) ?_
  refine z_iald (k := 2) (i := j1) (n := 6) S hK hR hF hj1 rfl dX5_measurePair_11 (fun hF => ?_)
  refine lv_isub S.1 S.2.1 dX5_measurePair_12 ?_
  refine z_nm hF (fun v21 hF => ?_)
  refine lv_istore (lv' := [(4, .int v21), (0, .ref (g.1 15 j)), (1, .ref (g.1 1 j1)), (2, .int v2), (3, .int v3)]) S.1 S.2.1 dX5_measurePair_13 hl (by decide) rfl (fun ls hl => ?_)
  refine lv_aload_n S.1 S.2.1 dX5_measurePair_15 rfl (lv_at hl 2 rfl) ?_
  refine z_get (k := 1) (i := j1) (f := 6) (v := .ref (g.1 4 j1)) S hK hR hj1 rfl rfl (by decide) wf_X5_45 rfl dX5_measurePair_16 ?_
  refine lv_iload_n S.1 S.2.1 dX5_measurePair_19 rfl (lv_at hl 3 rfl) ?_
  refine z_iald (k := 4) (i := j1) (n := 6) S hK hR hF hj1 rfl dX5_measurePair_20 (fun hF => ?_)
  refine z_nm hF (fun v22 hF => ?_)
  refine lv_istore (lv' := [(5, .int v22), (4, .int v21), (0, .ref (g.1 15 j)), (1, .ref (g.1 1 j1)), (2, .int v2), (3, .int v3)]) S.1 S.2.1 dX5_measurePair_21 hl (by decide) rfl (fun ls hl => ?_)
  refine lv_aload_n S.1 S.2.1 dX5_measurePair_23 rfl (lv_at hl 3 rfl) ?_
  refine z_get (k := 1) (i := j1) (f := 5) (v := .ref (g.1 3 j1)) S hK hR hj1 rfl rfl (by decide) wf_X5_39 rfl dX5_measurePair_24 ?_
  refine lv_iload_n S.1 S.2.1 dX5_measurePair_27 rfl (lv_at hl 5 rfl) ?_
  refine z_iald (k := 3) (i := j1) (n := 6) S hK hR hF hj1 rfl dX5_measurePair_28 (fun hF => ?_)
  refine lv_aload_n S.1 S.2.1 dX5_measurePair_29 rfl (lv_at hl 3 rfl) ?_
  refine z_get (k := 1) (i := j1) (f := 4) (v := .ref (g.1 2 j1)) S hK hR hj1 rfl rfl (by decide) wf_X5_42 rfl dX5_measurePair_30 ?_
  refine lv_iload_n S.1 S.2.1 dX5_measurePair_33 rfl (lv_at hl 5 rfl) ?_
  refine z_iald (k := 2) (i := j1) (n := 6) S hK hR hF hj1 rfl dX5_measurePair_34 (fun hF => ?_)
  refine lv_isub S.1 S.2.1 dX5_measurePair_35 ?_
  refine z_nm hF (fun v23 hF => ?_)
  refine lv_istore (lv' := [(6, .int v23), (5, .int v22), (4, .int v21), (0, .ref (g.1 15 j)), (1, .ref (g.1 1 j1)), (2, .int v2), (3, .int v3)]) S.1 S.2.1 dX5_measurePair_36 hl (by decide) rfl (fun ls hl => ?_)
  refine lv_aload_n S.1 S.2.1 dX5_measurePair_38 rfl (lv_at hl 4 rfl) ?_
  refine z_get (k := 1) (i := j1) (f := 6) (v := .ref (g.1 4 j1)) S hK hR hj1 rfl rfl (by decide) wf_X5_45 rfl dX5_measurePair_39 ?_
  refine lv_iload_n S.1 S.2.1 dX5_measurePair_42 rfl (lv_at hl 6 rfl) ?_
  refine z_iald (k := 4) (i := j1) (n := 6) S hK hR hF hj1 rfl dX5_measurePair_43 (fun hF => ?_)
  refine z_nm hF (fun v24 hF => ?_)
  refine lv_istore (lv' := [(7, .int v24), (6, .int v23), (5, .int v22), (4, .int v21), (0, .ref (g.1 15 j)), (1, .ref (g.1 1 j1)), (2, .int v2), (3, .int v3)]) S.1 S.2.1 dX5_measurePair_44 hl (by decide) rfl (fun ls hl => ?_)
  refine lv_aload_n S.1 S.2.1 dX5_measurePair_46 rfl (lv_at hl 5 rfl) ?_
  refine z_get (k := 1) (i := j1) (f := 4) (v := .ref (g.1 2 j1)) S hK hR hj1 rfl rfl (by decide) wf_X5_42 rfl dX5_measurePair_47 ?_
  refine lv_iload_n S.1 S.2.1 dX5_measurePair_50 rfl (lv_at hl 7 rfl) ?_
  refine z_iald (k := 2) (i := j1) (n := 6) S hK hR hF hj1 rfl dX5_measurePair_51 (fun hF => ?_)
  refine lv_aload_n S.1 S.2.1 dX5_measurePair_52 rfl (lv_at hl 5 rfl) ?_
  refine z_get (k := 1) (i := j1) (f := 4) (v := .ref (g.1 2 j1)) S hK hR hj1 rfl rfl (by decide) wf_X5_42 rfl dX5_measurePair_53 ?_
  refine lv_iload_n S.1 S.2.1 dX5_measurePair_56 rfl (lv_at hl 6 rfl) ?_
  refine z_iald (k := 2) (i := j1) (n := 6) S hK hR hF hj1 rfl dX5_measurePair_57 (fun hF => ?_)
  refine lv_isub S.1 S.2.1 dX5_measurePair_58 ?_
  refine z_nm hF (fun v25 hF => ?_)
  refine lv_istore (lv' := [(8, .int v25), (7, .int v24), (6, .int v23), (5, .int v22), (4, .int v21), (0, .ref (g.1 15 j)), (1, .ref (g.1 1 j1)), (2, .int v2), (3, .int v3)]) S.1 S.2.1 dX5_measurePair_59 hl (by decide) rfl (fun ls hl => ?_)
  refine lv_iload S.1 S.2.1 dX5_measurePair_61 (lv_at hl 4 rfl) ?_
  refine lv_iload S.1 S.2.1 dX5_measurePair_63 (lv_at hl 1 rfl) ?_
  refine lv_imul S.1 S.2.1 dX5_measurePair_65 ?_
  refine lv_iload S.1 S.2.1 dX5_measurePair_66 (lv_at hl 3 rfl) ?_
  refine lv_iload S.1 S.2.1 dX5_measurePair_68 (lv_at hl 2 rfl) ?_
  refine lv_imul S.1 S.2.1 dX5_measurePair_70 ?_
  refine lv_isub S.1 S.2.1 dX5_measurePair_71 ?_
  refine z_nm hF (fun v26 hF => ?_)
  refine lv_istore (lv' := [(9, .int v26), (8, .int v25), (7, .int v24), (6, .int v23), (5, .int v22), (4, .int v21), (0, .ref (g.1 15 j)), (1, .ref (g.1 1 j1)), (2, .int v2), (3, .int v3)]) S.1 S.2.1 dX5_measurePair_72 hl (by decide) rfl (fun ls hl => ?_)
  refine lv_iload S.1 S.2.1 dX5_measurePair_74 (lv_at hl 0 rfl) ?_
  refine z_mabs S hl (S.2.2.2.2 _ wm_X5_48) (S.2.2.2.2 _ ws_JM_abs) (S.2.2.2.2 _ wi_JM) (S.2.2.2.2 _ wk_abs) (Nat.le_of_ble_eq_true rfl) (Nat.le_of_ble_eq_true rfl) (Nat.zero_le _) (Nat.zero_le _) dX5_measurePair_76 ?_
  refine z_nm hF (fun v27 hF => ?_)
  refine lv_istore (lv' := [(10, .int v27), (9, .int v26), (8, .int v25), (7, .int v24), (6, .int v23), (5, .int v22), (4, .int v21), (0, .ref (g.1 15 j)), (1, .ref (g.1 1 j1)), (2, .int v2), (3, .int v3)]) S.1 S.2.1 dX5_measurePair_79 hl (by decide) rfl (fun ls hl => ?_)
  refine lv_iload S.1 S.2.1 dX5_measurePair_81 (lv_at hl 0 rfl) ?_
  refine lv_if_eq (tgt := 94) S.1 S.2.1 dX5_measurePair_83 (by decide) (fun hc28 => ?_) (fun hc28 => ?_)
  · replace hF := z_ct hF hc28
    exact z_vret S hr hlk hR hS hF dX5_measurePair_94
  · replace hF := z_cf hF hc28
    refine lv_iload S.1 S.2.1 dX5_measurePair_86 (lv_at hl 2 rfl) ?_
    refine lv_iload S.1 S.2.1 dX5_measurePair_88 (lv_at hl 1 rfl) ?_
    refine lv_imul S.1 S.2.1 dX5_measurePair_90 ?_
    refine lv_if_gt (tgt := 95) S.1 S.2.1 dX5_measurePair_91 (by decide) (fun hc29 => ?_) (fun hc29 => ?_)
    · replace hF := z_ct hF hc29
      refine lv_iload S.1 S.2.1 dX5_measurePair_95 (lv_at hl 2 rfl) ?_
      refine z_mabs S hl (S.2.2.2.2 _ wm_X5_48) (S.2.2.2.2 _ ws_JM_abs) (S.2.2.2.2 _ wi_JM) (S.2.2.2.2 _ wk_abs) (Nat.le_of_ble_eq_true rfl) (Nat.le_of_ble_eq_true rfl) (Nat.zero_le _) (Nat.zero_le _) dX5_measurePair_97 ?_
      refine lv_iload S.1 S.2.1 dX5_measurePair_100 (lv_at hl 3 rfl) ?_
      refine lv_imul S.1 S.2.1 dX5_measurePair_102 ?_
      refine z_nm hF (fun v30 hF => ?_)
      refine lv_istore (lv' := [(11, .int v30), (10, .int v27), (9, .int v26), (8, .int v25), (7, .int v24), (6, .int v23), (5, .int v22), (4, .int v21), (0, .ref (g.1 15 j)), (1, .ref (g.1 1 j1)), (2, .int v2), (3, .int v3)]) S.1 S.2.1 dX5_measurePair_103 hl (by decide) rfl (fun ls hl => ?_)
      refine lv_iload S.1 S.2.1 dX5_measurePair_105 (lv_at hl 3 rfl) ?_
      refine z_mabs S hl (S.2.2.2.2 _ wm_X5_48) (S.2.2.2.2 _ ws_JM_abs) (S.2.2.2.2 _ wi_JM) (S.2.2.2.2 _ wk_abs) (Nat.le_of_ble_eq_true rfl) (Nat.le_of_ble_eq_true rfl) (Nat.zero_le _) (Nat.zero_le _) dX5_measurePair_107 ?_
      refine lv_iload S.1 S.2.1 dX5_measurePair_110 (lv_at hl 6 rfl) ?_
      refine lv_imul S.1 S.2.1 dX5_measurePair_112 ?_
      refine z_nm hF (fun v31 hF => ?_)
      refine lv_istore (lv' := [(12, .int v31), (11, .int v30), (10, .int v27), (9, .int v26), (8, .int v25), (7, .int v24), (6, .int v23), (5, .int v22), (4, .int v21), (0, .ref (g.1 15 j)), (1, .ref (g.1 1 j1)), (2, .int v2), (3, .int v3)]) S.1 S.2.1 dX5_measurePair_113 hl (by decide) rfl (fun ls hl => ?_)
      refine lv_iload S.1 S.2.1 dX5_measurePair_115 (lv_at hl 1 rfl) ?_
      refine lv_iload S.1 S.2.1 dX5_measurePair_117 (lv_at hl 2 rfl) ?_
      refine lv_icmp_ge (tgt := 129) S.1 S.2.1 dX5_measurePair_119 (by decide) (fun hc32 => ?_) (fun hc32 => ?_)
      · replace hF := z_ct hF hc32
        exact z_vret S hr hlk hR hS hF dX5_measurePair_129
      · replace hF := z_cf hF hc32
        refine lv_iload S.1 S.2.1 dX5_measurePair_122 (lv_at hl 0 rfl) ?_
        refine lv_iload S.1 S.2.1 dX5_measurePair_124 (lv_at hl 2 rfl) ?_
        refine lv_icmp_lt (tgt := 130) S.1 S.2.1 dX5_measurePair_126 (by decide) (fun hc33 => ?_) (fun hc33 => ?_)
        · replace hF := z_ct hF hc33
          refine lv_iload S.1 S.2.1 dX5_measurePair_130 (lv_at hl 2 rfl) ?_
          refine lv_iload S.1 S.2.1 dX5_measurePair_132 (lv_at hl 8 rfl) ?_
          refine lv_iload S.1 S.2.1 dX5_measurePair_134 (lv_at hl 6 rfl) ?_
          refine lv_imul S.1 S.2.1 dX5_measurePair_136 ?_
          refine lv_iload S.1 S.2.1 dX5_measurePair_137 (lv_at hl 7 rfl) ?_
          refine lv_iload S.1 S.2.1 dX5_measurePair_139 (lv_at hl 5 rfl) ?_
          refine lv_imul S.1 S.2.1 dX5_measurePair_141 ?_
          refine lv_iadd S.1 S.2.1 dX5_measurePair_142 ?_
          refine z_mabs S hl (S.2.2.2.2 _ wm_X5_48) (S.2.2.2.2 _ ws_JM_abs) (S.2.2.2.2 _ wi_JM) (S.2.2.2.2 _ wk_abs) (Nat.le_of_ble_eq_true rfl) (Nat.le_of_ble_eq_true rfl) (Nat.zero_le _) (Nat.zero_le _) dX5_measurePair_143 ?_
          refine lv_icmp_lt (tgt := 153) S.1 S.2.1 dX5_measurePair_146 (by decide) (fun hc34 => ?_) (fun hc34 => ?_)
          · replace hF := z_ct hF hc34
            refine lv_iconst (v := 0) S.1 S.2.1 dX5_measurePair_153 (by decide) ?_
            refine lv_istore (lv' := [(13, .int 0), (12, .int v31), (11, .int v30), (10, .int v27), (9, .int v26), (8, .int v25), (7, .int v24), (6, .int v23), (5, .int v22), (4, .int v21), (0, .ref (g.1 15 j)), (1, .ref (g.1 1 j1)), (2, .int v2), (3, .int v3)]) S.1 S.2.1 dX5_measurePair_154 hl (by decide) rfl (fun ls hl => ?_)
            refine lv_aload_n S.1 S.2.1 dX5_measurePair_156 rfl (lv_at hl 10 rfl) ?_
            refine lv_iload_n S.1 S.2.1 dX5_measurePair_157 rfl (lv_at hl 12 rfl) ?_
            refine lv_iload_n S.1 S.2.1 dX5_measurePair_158 rfl (lv_at hl 13 rfl) ?_
            refine lv_bipush (v := 32) S.1 S.2.1 dX5_measurePair_159 (by decide) ?_
            refine lv_iload S.1 S.2.1 dX5_measurePair_161 (lv_at hl 2 rfl) ?_
            refine lv_imul S.1 S.2.1 dX5_measurePair_163 ?_
            refine lv_iload S.1 S.2.1 dX5_measurePair_164 (lv_at hl 3 rfl) ?_
            obtain ⟨hne, hF⟩ := zV_out hF
            refine lv_idiv S.1 S.2.1 dX5_measurePair_166 hne ?_
            refine lv_iload S.1 S.2.1 dX5_measurePair_167 (lv_at hl 0 rfl) ?_
            refine z_gov hS hF (fun _ _ ho => va_runV (C := RX5) (n := 4) (As := [.int v2, .int v3, .int ((32 * v30) / v27), .int 0]) (rest := []) S (kX5_note l hg hj ho) (cwV 4 S.2.2.2.2 (zgV wm_X5_54 oX5_note) rfl rfl rfl hX5_note ⟨Nat.le_of_ble_eq_true rfl, Nat.le_of_ble_eq_true rfl⟩) ⟨zPc_blind, z_recv hK hR hj rfl rfl, z_pre hK hR⟩ rfl rfl hl.1 rfl (lv_room (Nat.le_of_ble_eq_true rfl)) dX5_measurePair_169 ⟨Nat.zero_le _, Nat.zero_le _⟩) (fun M35 H locs hR hS hF => ?_)
            refine lv_aload_n S.1 S.2.1 dX5_measurePair_172 rfl (lv_at hl 10 rfl) ?_
            refine lv_iload_n S.1 S.2.1 dX5_measurePair_173 rfl (lv_at hl 13 rfl) ?_
            refine lv_iload_n S.1 S.2.1 dX5_measurePair_174 rfl (lv_at hl 12 rfl) ?_
            refine lv_bipush (v := 32) S.1 S.2.1 dX5_measurePair_175 (by decide) ?_
            refine lv_iload S.1 S.2.1 dX5_measurePair_177 (lv_at hl 1 rfl) ?_
            refine lv_imul S.1 S.2.1 dX5_measurePair_179 ?_
            refine lv_iload S.1 S.2.1 dX5_measurePair_180 (lv_at hl 3 rfl) ?_
            obtain ⟨hne, hF⟩ := zV_out hF
            refine lv_idiv S.1 S.2.1 dX5_measurePair_182 hne ?_
            refine lv_iload S.1 S.2.1 dX5_measurePair_183 (lv_at hl 0 rfl) ?_
            refine z_gov hS hF (fun _ _ ho => va_runV (C := RX5) (n := 4) (As := [.int v3, .int v2, .int ((32 * v31) / v27), .int 0]) (rest := []) S (kX5_note l hg hj ho) (cwV 4 S.2.2.2.2 (zgV wm_X5_54 oX5_note) rfl rfl rfl hX5_note ⟨Nat.le_of_ble_eq_true rfl, Nat.le_of_ble_eq_true rfl⟩) ⟨zPc_blind, z_recv hK hR hj rfl rfl, z_pre hK hR⟩ rfl rfl hl.1 rfl (lv_room (Nat.le_of_ble_eq_true rfl)) dX5_measurePair_185 ⟨Nat.zero_le _, Nat.zero_le _⟩) (fun M36 H locs hR hS hF => ?_)
            exact z_vret S hr hlk hR hS hF dX5_measurePair_188
          · replace hF := z_cf hF hc34
            refine lv_iconst (v := 1) S.1 S.2.1 dX5_measurePair_149 (by decide) ?_
            refine lv_goto (tgt := 154) S.1 S.2.1 dX5_measurePair_150 (by decide) ?_
            refine lv_istore (lv' := [(13, .int 1), (12, .int v31), (11, .int v30), (10, .int v27), (9, .int v26), (8, .int v25), (7, .int v24), (6, .int v23), (5, .int v22), (4, .int v21), (0, .ref (g.1 15 j)), (1, .ref (g.1 1 j1)), (2, .int v2), (3, .int v3)]) S.1 S.2.1 dX5_measurePair_154 hl (by decide) rfl (fun ls hl => ?_)
            refine lv_aload_n S.1 S.2.1 dX5_measurePair_156 rfl (lv_at hl 10 rfl) ?_
            refine lv_iload_n S.1 S.2.1 dX5_measurePair_157 rfl (lv_at hl 12 rfl) ?_
            refine lv_iload_n S.1 S.2.1 dX5_measurePair_158 rfl (lv_at hl 13 rfl) ?_
            refine lv_bipush (v := 32) S.1 S.2.1 dX5_measurePair_159 (by decide) ?_
            refine lv_iload S.1 S.2.1 dX5_measurePair_161 (lv_at hl 2 rfl) ?_
            refine lv_imul S.1 S.2.1 dX5_measurePair_163 ?_
            refine lv_iload S.1 S.2.1 dX5_measurePair_164 (lv_at hl 3 rfl) ?_
            obtain ⟨hne, hF⟩ := zV_out hF
            refine lv_idiv S.1 S.2.1 dX5_measurePair_166 hne ?_
            refine lv_iload S.1 S.2.1 dX5_measurePair_167 (lv_at hl 0 rfl) ?_
            refine z_gov hS hF (fun _ _ ho => va_runV (C := RX5) (n := 4) (As := [.int v2, .int v3, .int ((32 * v30) / v27), .int 1]) (rest := []) S (kX5_note l hg hj ho) (cwV 4 S.2.2.2.2 (zgV wm_X5_54 oX5_note) rfl rfl rfl hX5_note ⟨Nat.le_of_ble_eq_true rfl, Nat.le_of_ble_eq_true rfl⟩) ⟨zPc_blind, z_recv hK hR hj rfl rfl, z_pre hK hR⟩ rfl rfl hl.1 rfl (lv_room (Nat.le_of_ble_eq_true rfl)) dX5_measurePair_169 ⟨Nat.zero_le _, Nat.zero_le _⟩) (fun M37 H locs hR hS hF => ?_)
            refine lv_aload_n S.1 S.2.1 dX5_measurePair_172 rfl (lv_at hl 10 rfl) ?_
            refine lv_iload_n S.1 S.2.1 dX5_measurePair_173 rfl (lv_at hl 13 rfl) ?_
            refine lv_iload_n S.1 S.2.1 dX5_measurePair_174 rfl (lv_at hl 12 rfl) ?_
            refine lv_bipush (v := 32) S.1 S.2.1 dX5_measurePair_175 (by decide) ?_
            refine lv_iload S.1 S.2.1 dX5_measurePair_177 (lv_at hl 1 rfl) ?_
            refine lv_imul S.1 S.2.1 dX5_measurePair_179 ?_
            refine lv_iload S.1 S.2.1 dX5_measurePair_180 (lv_at hl 3 rfl) ?_
            obtain ⟨hne, hF⟩ := zV_out hF
            refine lv_idiv S.1 S.2.1 dX5_measurePair_182 hne ?_
            refine lv_iload S.1 S.2.1 dX5_measurePair_183 (lv_at hl 0 rfl) ?_
            refine z_gov hS hF (fun _ _ ho => va_runV (C := RX5) (n := 4) (As := [.int v3, .int v2, .int ((32 * v31) / v27), .int 1]) (rest := []) S (kX5_note l hg hj ho) (cwV 4 S.2.2.2.2 (zgV wm_X5_54 oX5_note) rfl rfl rfl hX5_note ⟨Nat.le_of_ble_eq_true rfl, Nat.le_of_ble_eq_true rfl⟩) ⟨zPc_blind, z_recv hK hR hj rfl rfl, z_pre hK hR⟩ rfl rfl hl.1 rfl (lv_room (Nat.le_of_ble_eq_true rfl)) dX5_measurePair_185 ⟨Nat.zero_le _, Nat.zero_le _⟩) (fun M38 H locs hR hS hF => ?_)
            exact z_vret S hr hlk hR hS hF dX5_measurePair_188
        · replace hF := z_cf hF hc33
          exact z_vret S hr hlk hR hS hF dX5_measurePair_129
    · replace hF := z_cf hF hc29
      exact z_vret S hr hlk hR hS hF dX5_measurePair_94
theorem hX5_measure : yX5_measure.cls = RX5 ∧ yX5_measure.cls ≠ "java/lang/invoke/MethodHandle" ∧ yX5_measure.cls ≠ "java/lang/invoke/VarHandle" ∧ (parseMethodDescriptor yX5_measure.desc).map (fun d => d.parameters.length) = some 1 := by decide +kernel
theorem oX5_measure : Cond.instanceMethod yX5_measure ∈ zT ∧ Cond.selects RX5 yX5_measure yX5_measure ∈ zT ∧ Cond.initialized RX5 ∈ zT ∧ Cond.code yX5_measure cX5_measure 4 none ∈ zT := ⟨wv_X5_measure, we_X5_measure, wi_X5, wk_X5_measure⟩
set_option maxRecDepth 100000 in
set_option maxHeartbeats 4000000 in
theorem kX5_measure (l : Launch) {g : zGeo} {z : Nat} (hg : zAd g z) {M M' : zM} {j : Nat} (hj : j < 2) {j1 : Nat} (hj1 : j1 < 10) {r : Unit} (hF : fX5_measure M j j1 = some (r, M')) : Met l yX5_measure [.code yX5_measure cX5_measure 4 none] { frames := 2, cells := 0, slots := 0, locals := 57 } (zPc g M [.ref (g.1 15 j), .ref (g.1 1 j1)]) (zQv g z M') 0 0 (zS z) := by
  refine z_enter (cc := cX5_measure) (maxL := 4) (ret := none) (by decide) rfl (Nat.le_of_ble_eq_true rfl) ?_
  intro p e s m below meth c S hr hlk hK hR hS ls hl
  have S : CallFix p m c cX5_measure 4 s _ zT RX5 := S
  have hl : lv_has ls 4 [(0, .ref (g.1 15 j)), (1, .ref (g.1 1 j1))] := hl
  have L25 : ∀ (k : zM → Int32 → Option (Unit × zM)) (a2 : Int32), (∀ (M : zM) (a3 : Int32) (H : Heap) (locs : List Loc), zR g M H → va_S (zS z) s.heap H locs → ∀ ls : Array Slot, lv_has ls 4 [(0, .ref (g.1 15 j)), (1, .ref (g.1 1 j1)), (2, .int a2), (3, .int a3)] → k M a3 = some (r, M') → W p l e { frames := 2, cells := 0, slots := 0, locals := 57 } s m ([.ref (g.1 15 j), .ref (g.1 1 j1)] : List Value).toArray below meth c H locs 0 0 (MQ below (zQv g z M') ([.ref (g.1 15 j), .ref (g.1 1 j1)] : List Value).toArray s 0 0 (zS z)) (F0 m 52 ls [])) → ∀ (n : Nat) (M : zM) (a3 : Int32) (H : Heap) (locs : List Loc), zR g M H → va_S (zS z) s.heap H locs → ∀ ls : Array Slot, lv_has ls 4 [(0, .ref (g.1 15 j)), (1, .ref (g.1 1 j1)), (2, .int a2), (3, .int a3)] → fX5_measure_L25 k j j1 a2 n M a3 = some (r, M') → W p l e { frames := 2, cells := 0, slots := 0, locals := 57 } s m ([.ref (g.1 15 j), .ref (g.1 1 j1)] : List Value).toArray below meth c H locs 0 0 (MQ below (zQv g z M') ([.ref (g.1 15 j), .ref (g.1 1 j1)] : List Value).toArray s 0 0 (zS z)) (F0 m 25 ls []) := by
    intro k a2 hk n
    induction n with
    | zero =>
      intro M a3 H locs hR hS ls hl hF
      cases hF
    | succ n ih =>
      intro M a3 H locs hR hS ls hl hF
      unfold fX5_measure_L25 at hF
      refine lv_iload_n S.1 S.2.1 dX5_measure_25 rfl (lv_at hl 3 rfl) ?_
      refine lv_bipush (v := 6) S.1 S.2.1 dX5_measure_26 (by decide) ?_
      refine lv_icmp_ge (tgt := 52) S.1 S.2.1 dX5_measure_28 (by decide) (fun hc28 => ?_) (fun hc28 => ?_)
      · replace hF := z_ct hF hc28
        exact hk _ _ _ _ hR hS _ (lv_sub hl [0, 1, 2, 3] rfl) hF
      · replace hF := z_cf hF hc28
        refine lv_aload_n S.1 S.2.1 dX5_measure_31 rfl (lv_at hl 1 rfl) ?_
        refine lv_iload_n S.1 S.2.1 dX5_measure_32 rfl (lv_at hl 3 rfl) ?_
        refine z_goi hS hF (fun _ _ ho => va_runV (C := RX2) (n := 1) (As := [.int a3]) (rest := []) S (kX2_isFlying l hg hj1 ho) (cwV 1 S.2.2.2.2 (zgV wm_X5_29 oX2_isFlying) rfl rfl rfl hX2_isFlying ⟨Nat.le_of_ble_eq_true rfl, Nat.le_of_ble_eq_true rfl⟩) ⟨zPc_blind, z_recv hK hR hj1 rfl rfl, z_pre hK hR⟩ rfl rfl hl.1 rfl (lv_room (Nat.le_of_ble_eq_true rfl)) dX5_measure_33 ⟨Nat.zero_le _, Nat.zero_le _⟩) (fun r30 M29 H locs hR hS hF => ?_)
        refine lv_if_eq (tgt := 46) S.1 S.2.1 dX5_measure_36 (by decide) (fun hc31 => ?_) (fun hc31 => ?_)
        · replace hF := z_ct hF hc31
          obtain ⟨v32, ev32, hF⟩ := zL_out hF
          refine lv_iinc (v := v32) (lv' := [(3, .int v32), (0, .ref (g.1 15 j)), (1, .ref (g.1 1 j1)), (2, .int a2)]) S.1 S.2.1 dX5_measure_46 hl (k := 3) rfl (by rw [← ev32]; rfl) (by decide) rfl (fun ls hl => ?_)
          refine lv_goto (tgt := 25) S.1 S.2.1 dX5_measure_49 (by decide) ?_
          exact ih _ _ _ _ hR hS _ (lv_sub hl [1, 2, 3, 0] rfl) hF
        · replace hF := z_cf hF hc31
          refine lv_aload_n S.1 S.2.1 dX5_measure_39 rfl (lv_at hl 0 rfl) ?_
          refine lv_aload_n S.1 S.2.1 dX5_measure_40 rfl (lv_at hl 1 rfl) ?_
          refine lv_iload_n S.1 S.2.1 dX5_measure_41 rfl (lv_at hl 2 rfl) ?_
          refine lv_iload_n S.1 S.2.1 dX5_measure_42 rfl (lv_at hl 3 rfl) ?_
          refine z_gov hS hF (fun _ _ ho => va_runV (C := RX5) (n := 3) (As := [.ref (g.1 1 j1), .int a2, .int a3]) (rest := []) S (kX5_measurePair l hg hj hj1 ho) (cwV 3 S.2.2.2.2 (zgV wm_X5_35 oX5_measurePair) rfl rfl rfl hX5_measurePair ⟨Nat.le_of_ble_eq_true rfl, Nat.le_of_ble_eq_true rfl⟩) ⟨zPc_blind, z_recv hK hR hj rfl rfl, z_pre hK hR⟩ rfl rfl hl.1 rfl (lv_room (Nat.le_of_ble_eq_true rfl)) dX5_measure_43 ⟨Nat.zero_le _, Nat.zero_le _⟩) (fun M33 H locs hR hS hF => ?_)
          obtain ⟨v34, ev34, hF⟩ := zL_out hF
          refine lv_iinc (v := v34) (lv' := [(3, .int v34), (0, .ref (g.1 15 j)), (1, .ref (g.1 1 j1)), (2, .int a2)]) S.1 S.2.1 dX5_measure_46 hl (k := 3) rfl (by rw [← ev34]; rfl) (by decide) rfl (fun ls hl => ?_)
          refine lv_goto (tgt := 25) S.1 S.2.1 dX5_measure_49 (by decide) ?_
          exact ih _ _ _ _ hR hS _ (lv_sub hl [1, 2, 3, 0] rfl) hF
  have L7 : ∀ (k : zM → Int32 → Option (Unit × zM)) , (∀ (M : zM) (a2 : Int32) (H : Heap) (locs : List Loc), zR g M H → va_S (zS z) s.heap H locs → ∀ ls : Array Slot, lv_has ls 4 [(0, .ref (g.1 15 j)), (1, .ref (g.1 1 j1)), (2, .int a2)] → k M a2 = some (r, M') → W p l e { frames := 2, cells := 0, slots := 0, locals := 57 } s m ([.ref (g.1 15 j), .ref (g.1 1 j1)] : List Value).toArray below meth c H locs 0 0 (MQ below (zQv g z M') ([.ref (g.1 15 j), .ref (g.1 1 j1)] : List Value).toArray s 0 0 (zS z)) (F0 m 58 ls [])) → ∀ (n : Nat) (M : zM) (a2 : Int32) (H : Heap) (locs : List Loc), zR g M H → va_S (zS z) s.heap H locs → ∀ ls : Array Slot, lv_has ls 4 [(0, .ref (g.1 15 j)), (1, .ref (g.1 1 j1)), (2, .int a2)] → fX5_measure_L7 k j j1 n M a2 = some (r, M') → W p l e { frames := 2, cells := 0, slots := 0, locals := 57 } s m ([.ref (g.1 15 j), .ref (g.1 1 j1)] : List Value).toArray below meth c H locs 0 0 (MQ below (zQv g z M') ([.ref (g.1 15 j), .ref (g.1 1 j1)] : List Value).toArray s 0 0 (zS z)) (F0 m 7 ls []) := by
    intro k  hk n
    induction n with
    | zero =>
      intro M a2 H locs hR hS ls hl hF
      cases hF
    | succ n ih =>
      intro M a2 H locs hR hS ls hl hF
      unfold fX5_measure_L7 at hF
      refine lv_iload_n S.1 S.2.1 dX5_measure_7 rfl (lv_at hl 2 rfl) ?_
      refine lv_bipush (v := 6) S.1 S.2.1 dX5_measure_8 (by decide) ?_
      refine lv_icmp_ge (tgt := 58) S.1 S.2.1 dX5_measure_10 (by decide) (fun hc22 => ?_) (fun hc22 => ?_)
      · replace hF := z_ct hF hc22
        exact hk _ _ _ _ hR hS _ (lv_sub hl [0, 1, 2] rfl) hF
      · replace hF := z_cf hF hc22
        refine lv_aload_n S.1 S.2.1 dX5_measure_13 rfl (lv_at hl 1 rfl) ?_
        refine lv_iload_n S.1 S.2.1 dX5_measure_14 rfl (lv_at hl 2 rfl) ?_
        refine z_goi hS hF (fun _ _ ho => va_runV (C := RX2) (n := 1) (As := [.int a2]) (rest := []) S (kX2_isFlying l hg hj1 ho) (cwV 1 S.2.2.2.2 (zgV wm_X5_29 oX2_isFlying) rfl rfl rfl hX2_isFlying ⟨Nat.le_of_ble_eq_true rfl, Nat.le_of_ble_eq_true rfl⟩) ⟨zPc_blind, z_recv hK hR hj1 rfl rfl, z_pre hK hR⟩ rfl rfl hl.1 rfl (lv_room (Nat.le_of_ble_eq_true rfl)) dX5_measure_15 ⟨Nat.zero_le _, Nat.zero_le _⟩) (fun r24 M23 H locs hR hS hF => ?_)
        refine lv_if_eq (tgt := 52) S.1 S.2.1 dX5_measure_18 (by decide) (fun hc25 => ?_) (fun hc25 => ?_)
        · replace hF := z_ct hF hc25
          obtain ⟨v26, ev26, hF⟩ := zL_out hF
          refine lv_iinc (v := v26) (lv' := [(2, .int v26), (0, .ref (g.1 15 j)), (1, .ref (g.1 1 j1))]) S.1 S.2.1 dX5_measure_52 hl (k := 2) rfl (by rw [← ev26]; rfl) (by decide) rfl (fun ls hl => ?_)
          refine lv_goto (tgt := 7) S.1 S.2.1 dX5_measure_55 (by decide) ?_
          exact ih _ _ _ _ hR hS _ (lv_sub hl [1, 2, 0] rfl) hF
        · replace hF := z_cf hF hc25
          refine lv_iload_n S.1 S.2.1 dX5_measure_21 rfl (lv_at hl 2 rfl) ?_
          refine lv_iconst (v := 1) S.1 S.2.1 dX5_measure_22 (by decide) ?_
          refine lv_iadd S.1 S.2.1 dX5_measure_23 ?_
          refine z_nm hF (fun v27 hF => ?_)
          refine lv_istore_n (lv' := [(3, .int v27), (0, .ref (g.1 15 j)), (1, .ref (g.1 1 j1)), (2, .int a2)]) S.1 S.2.1 dX5_measure_24 rfl hl (by decide) rfl (fun ls hl => ?_)
          refine L25 _ _ (fun M35 v36 H locs hR hS ls hl hF => ?_) _ _ _ _ _ hR hS _ (lv_sub hl [1, 2, 3, 0] rfl) hF
          obtain ⟨v37, ev37, hF⟩ := zL_out hF
          refine lv_iinc (v := v37) (lv' := [(2, .int v37), (0, .ref (g.1 15 j)), (1, .ref (g.1 1 j1)), (3, .int v36)]) S.1 S.2.1 dX5_measure_52 hl (k := 2) rfl (by rw [← ev37]; rfl) (by decide) rfl (fun ls hl => ?_)
          refine lv_goto (tgt := 7) S.1 S.2.1 dX5_measure_55 (by decide) ?_
          exact ih _ _ _ _ hR hS _ (lv_sub hl [1, 2, 0] rfl) hF
  unfold fX5_measure at hF
  refine lv_aload_n S.1 S.2.1 dX5_measure_0 rfl (lv_at hl 0 rfl) ?_
  refine lv_iconst (v := 0) S.1 S.2.1 dX5_measure_1 (by decide) ?_
  refine z_put (k := 15) (i := j) (f := 4) (ty := .int) S hg hK hR hS hF hj rfl rfl rfl (by decide) wf_X5_25 rfl (by decide +kernel) rfl rfl (Nat.le_of_ble_eq_true rfl) dX5_measure_2 (fun H locs M21 hR hS hF => ?_)
  refine lv_iconst (v := 0) S.1 S.2.1 dX5_measure_5 (by decide) ?_
  refine lv_istore_n (lv' := [(2, .int 0), (0, .ref (g.1 15 j)), (1, .ref (g.1 1 j1))]) S.1 S.2.1 dX5_measure_6 rfl hl (by decide) rfl (fun ls hl => ?_)
  refine L7 _ (fun M38 v39 H locs hR hS ls hl hF => ?_) _ _ _ _ _ hR hS _ (lv_sub hl [1, 2, 0] rfl) hF
  exact z_vret S hr hlk hR hS hF dX5_measure_58
theorem hX5_crossings : yX5_crossings.cls = RX5 ∧ yX5_crossings.cls ≠ "java/lang/invoke/MethodHandle" ∧ yX5_crossings.cls ≠ "java/lang/invoke/VarHandle" ∧ (parseMethodDescriptor yX5_crossings.desc).map (fun d => d.parameters.length) = some 0 := by decide +kernel
theorem oX5_crossings : Cond.instanceMethod yX5_crossings ∈ zT ∧ Cond.selects RX5 yX5_crossings yX5_crossings ∈ zT ∧ Cond.initialized RX5 ∈ zT ∧ Cond.code yX5_crossings cX5_crossings 1 (some .int) ∈ zT := ⟨wv_X5_crossings, we_X5_crossings, wi_X5, wk_X5_crossings⟩
set_option maxRecDepth 100000 in
set_option maxHeartbeats 4000000 in
theorem kX5_crossings (l : Launch) {g : zGeo} {z : Nat} (hg : zAd g z) {M M' : zM} {j : Nat} (hj : j < 2) {r : Int32} (hF : fX5_crossings M j = some (r, M')) : Met l yX5_crossings [.code yX5_crossings cX5_crossings 1 (some .int)] { frames := 0, cells := 0, slots := 0, locals := 0 } (zPc g M [.ref (g.1 15 j)]) (zQi g z r M') 0 0 (zS z) := by
  refine z_enter (cc := cX5_crossings) (maxL := 1) (ret := (some .int)) (by decide) rfl (Nat.le_of_ble_eq_true rfl) ?_
  intro p e s m below meth c S hr hlk hK hR hS ls hl
  have S : CallFix p m c cX5_crossings 1 s _ zT RX5 := S
  have hl : lv_has ls 1 [(0, .ref (g.1 15 j))] := hl
  unfold fX5_crossings at hF
  refine lv_aload_n S.1 S.2.1 dX5_crossings_0 rfl (lv_at hl 0 rfl) ?_
  refine z_get (k := 15) (i := j) (f := 4) (v := .int (M 15 j 4)) S hK hR hj rfl rfl (by decide) wf_X5_25 rfl dX5_crossings_1 ?_
  refine lv_iconst (v := 2) S.1 S.2.1 dX5_crossings_4 (by decide) ?_
  refine lv_idiv S.1 S.2.1 dX5_crossings_5 (by decide) ?_
  exact z_iret S hr hlk hR hS hF dX5_crossings_6
theorem hX5_noteOf : yX5_noteOf.cls = RX5 ∧ yX5_noteOf.cls ≠ "java/lang/invoke/MethodHandle" ∧ yX5_noteOf.cls ≠ "java/lang/invoke/VarHandle" ∧ (parseMethodDescriptor yX5_noteOf.desc).map (fun d => d.parameters.length) = some 2 := by decide +kernel
theorem oX5_noteOf : Cond.instanceMethod yX5_noteOf ∈ zT ∧ Cond.selects RX5 yX5_noteOf yX5_noteOf ∈ zT ∧ Cond.initialized RX5 ∈ zT ∧ Cond.code yX5_noteOf cX5_noteOf 4 (some .int) ∈ zT := ⟨wv_X5_noteOf, we_X5_noteOf, wi_X5, wk_X5_noteOf⟩
set_option maxRecDepth 100000 in
set_option maxHeartbeats 4000000 in
theorem kX5_noteOf (l : Launch) {g : zGeo} {z : Nat} (hg : zAd g z) {M M' : zM} {j : Nat} (hj : j < 2) {v1 : Int32} {v2 : Int32} {r : Int32} (hF : fX5_noteOf M j v1 v2 = some (r, M')) : Met l yX5_noteOf [.code yX5_noteOf cX5_noteOf 4 (some .int)] { frames := 0, cells := 0, slots := 0, locals := 0 } (zPc g M [.ref (g.1 15 j), .int v1, .int v2]) (zQi g z r M') 0 0 (zS z) := by
  refine z_enter (cc := cX5_noteOf) (maxL := 4) (ret := (some .int)) (by decide) rfl (Nat.le_of_ble_eq_true rfl) ?_
  intro p e s m below meth c S hr hlk hK hR hS ls hl
  have S : CallFix p m c cX5_noteOf 4 s _ zT RX5 := S
  have hl : lv_has ls 4 [(0, .ref (g.1 15 j)), (1, .int v1), (2, .int v2)] := hl
  have L2 : ∀ (k : zM → Int32 → Option (Int32 × zM)) (a1 : Int32) (a2 : Int32), (∀ (M : zM) (a3 : Int32) (H : Heap) (locs : List Loc), zR g M H → va_S (zS z) s.heap H locs → ∀ ls : Array Slot, lv_has ls 4 [(0, .ref (g.1 15 j)), (1, .int a1), (2, .int a2), (3, .int a3)] → k M a3 = some (r, M') → W p l e { frames := 0, cells := 0, slots := 0, locals := 0 } s m ([.ref (g.1 15 j), .int v1, .int v2] : List Value).toArray below meth c H locs 0 0 (MQ below (zQi g z r M') ([.ref (g.1 15 j), .int v1, .int v2] : List Value).toArray s 0 0 (zS z)) (F0 m 44 ls [])) → ∀ (n : Nat) (M : zM) (a3 : Int32) (H : Heap) (locs : List Loc), zR g M H → va_S (zS z) s.heap H locs → ∀ ls : Array Slot, lv_has ls 4 [(0, .ref (g.1 15 j)), (1, .int a1), (2, .int a2), (3, .int a3)] → fX5_noteOf_L2 k j a1 a2 n M a3 = some (r, M') → W p l e { frames := 0, cells := 0, slots := 0, locals := 0 } s m ([.ref (g.1 15 j), .int v1, .int v2] : List Value).toArray below meth c H locs 0 0 (MQ below (zQi g z r M') ([.ref (g.1 15 j), .int v1, .int v2] : List Value).toArray s 0 0 (zS z)) (F0 m 2 ls []) := by
    intro k a1 a2 hk n
    induction n with
    | zero =>
      intro M a3 H locs hR hS ls hl hF
      cases hF
    | succ n ih =>
      intro M a3 H locs hR hS ls hl hF
      unfold fX5_noteOf_L2 at hF
      refine lv_iload_n S.1 S.2.1 dX5_noteOf_2 rfl (lv_at hl 3 rfl) ?_
      refine lv_aload_n S.1 S.2.1 dX5_noteOf_3 rfl (lv_at hl 0 rfl) ?_
      refine z_get (k := 15) (i := j) (f := 4) (v := .int (M 15 j 4)) S hK hR hj rfl rfl (by decide) wf_X5_25 rfl dX5_noteOf_4 ?_
      refine lv_icmp_ge (tgt := 44) S.1 S.2.1 dX5_noteOf_7 (by decide) (fun hc21 => ?_) (fun hc21 => ?_)
      · replace hF := z_ct hF hc21
        exact hk _ _ _ _ hR hS _ (lv_sub hl [0, 1, 2, 3] rfl) hF
      · replace hF := z_cf hF hc21
        refine lv_iload_n S.1 S.2.1 dX5_noteOf_10 rfl (lv_at hl 3 rfl) ?_
        refine lv_bipush (v := 30) S.1 S.2.1 dX5_noteOf_11 (by decide) ?_
        refine lv_icmp_ge (tgt := 44) S.1 S.2.1 dX5_noteOf_13 (by decide) (fun hc22 => ?_) (fun hc22 => ?_)
        · replace hF := z_ct hF hc22
          exact hk _ _ _ _ hR hS _ (lv_sub hl [0, 1, 2, 3] rfl) hF
        · replace hF := z_cf hF hc22
          refine lv_aload_n S.1 S.2.1 dX5_noteOf_16 rfl (lv_at hl 0 rfl) ?_
          refine z_get (k := 15) (i := j) (f := 0) (v := .ref (g.1 16 j)) S hK hR hj rfl rfl (by decide) wf_X5_11 rfl dX5_noteOf_17 ?_
          refine lv_iload_n S.1 S.2.1 dX5_noteOf_20 rfl (lv_at hl 3 rfl) ?_
          refine z_iald (k := 16) (i := j) (n := 30) S hK hR hF hj rfl dX5_noteOf_21 (fun hF => ?_)
          refine lv_iload_n S.1 S.2.1 dX5_noteOf_22 rfl (lv_at hl 1 rfl) ?_
          refine lv_icmp_ne (tgt := 38) S.1 S.2.1 dX5_noteOf_23 (by decide) (fun hc23 => ?_) (fun hc23 => ?_)
          · replace hF := z_cf hF hc23
            obtain ⟨v24, ev24, hF⟩ := zL_out hF
            refine lv_iinc (v := v24) (lv' := [(3, .int v24), (0, .ref (g.1 15 j)), (1, .int a1), (2, .int a2)]) S.1 S.2.1 dX5_noteOf_38 hl (k := 3) rfl (by rw [← ev24]; rfl) (by decide) rfl (fun ls hl => ?_)
            refine lv_goto (tgt := 2) S.1 S.2.1 dX5_noteOf_41 (by decide) ?_
            exact ih _ _ _ _ hR hS _ (lv_sub hl [1, 2, 3, 0] rfl) hF
          · replace hF := z_ct hF hc23
            refine lv_aload_n S.1 S.2.1 dX5_noteOf_26 rfl (lv_at hl 0 rfl) ?_
            refine z_get (k := 15) (i := j) (f := 1) (v := .ref (g.1 17 j)) S hK hR hj rfl rfl (by decide) wf_X5_15 rfl dX5_noteOf_27 ?_
            refine lv_iload_n S.1 S.2.1 dX5_noteOf_30 rfl (lv_at hl 3 rfl) ?_
            refine z_iald (k := 17) (i := j) (n := 30) S hK hR hF hj rfl dX5_noteOf_31 (fun hF => ?_)
            refine lv_iload_n S.1 S.2.1 dX5_noteOf_32 rfl (lv_at hl 2 rfl) ?_
            refine lv_icmp_ne (tgt := 38) S.1 S.2.1 dX5_noteOf_33 (by decide) (fun hc25 => ?_) (fun hc25 => ?_)
            · replace hF := z_cf hF hc25
              obtain ⟨v26, ev26, hF⟩ := zL_out hF
              refine lv_iinc (v := v26) (lv' := [(3, .int v26), (0, .ref (g.1 15 j)), (1, .int a1), (2, .int a2)]) S.1 S.2.1 dX5_noteOf_38 hl (k := 3) rfl (by rw [← ev26]; rfl) (by decide) rfl (fun ls hl => ?_)
              refine lv_goto (tgt := 2) S.1 S.2.1 dX5_noteOf_41 (by decide) ?_
              exact ih _ _ _ _ hR hS _ (lv_sub hl [1, 2, 3, 0] rfl) hF
            · replace hF := z_ct hF hc25
              refine lv_iload_n S.1 S.2.1 dX5_noteOf_36 rfl (lv_at hl 3 rfl) ?_
              exact z_iret S hr hlk hR hS hF dX5_noteOf_37
  unfold fX5_noteOf at hF
  refine lv_iconst (v := 0) S.1 S.2.1 dX5_noteOf_0 (by decide) ?_
  refine lv_istore_n (lv' := [(3, .int 0), (0, .ref (g.1 15 j)), (1, .int v1), (2, .int v2)]) S.1 S.2.1 dX5_noteOf_1 rfl hl (by decide) rfl (fun ls hl => ?_)
  refine L2 _ _ _ (fun M27 v28 H locs hR hS ls hl hF => ?_) _ _ _ _ _ hR hS _ (lv_sub hl [1, 2, 3, 0] rfl) hF
  refine lv_bipush (v := (-6)) S.1 S.2.1 dX5_noteOf_44 (by decide) ?_
  exact z_iret S hr hlk hR hS hF dX5_noteOf_46
theorem hX5_cross : yX5_cross.cls = RX5 ∧ yX5_cross.cls ≠ "java/lang/invoke/MethodHandle" ∧ yX5_cross.cls ≠ "java/lang/invoke/VarHandle" ∧ (parseMethodDescriptor yX5_cross.desc).map (fun d => d.parameters.length) = some 2 := by decide +kernel
theorem oX5_cross : Cond.instanceMethod yX5_cross ∈ zT ∧ Cond.selects RX5 yX5_cross yX5_cross ∈ zT ∧ Cond.initialized RX5 ∈ zT ∧ Cond.code yX5_cross cX5_cross 3 (some .boolean) ∈ zT := ⟨wv_X5_cross, we_X5_cross, wi_X5, wk_X5_cross⟩
set_option maxRecDepth 100000 in
set_option maxHeartbeats 4000000 in
theorem kX5_cross (l : Launch) {g : zGeo} {z : Nat} (hg : zAd g z) {M M' : zM} {j : Nat} (hj : j < 2) {v1 : Int32} {v2 : Int32} {r : Int32} (hF : fX5_cross M j v1 v2 = some (r, M')) : Met l yX5_cross [.code yX5_cross cX5_cross 3 (some .boolean)] { frames := 1, cells := 0, slots := 0, locals := 23 } (zPc g M [.ref (g.1 15 j), .int v1, .int v2]) (zQi g z r M') 0 0 (zS z) := by
  refine z_enter (cc := cX5_cross) (maxL := 3) (ret := (some .boolean)) (by decide) rfl (Nat.le_of_ble_eq_true rfl) ?_
  intro p e s m below meth c S hr hlk hK hR hS ls hl
  have S : CallFix p m c cX5_cross 3 s _ zT RX5 := S
  have hl : lv_has ls 3 [(0, .ref (g.1 15 j)), (1, .int v1), (2, .int v2)] := hl
  unfold fX5_cross at hF
  refine lv_aload_n S.1 S.2.1 dX5_cross_0 rfl (lv_at hl 0 rfl) ?_
  refine lv_iload_n S.1 S.2.1 dX5_cross_1 rfl (lv_at hl 1 rfl) ?_
  refine lv_iload_n S.1 S.2.1 dX5_cross_2 rfl (lv_at hl 2 rfl) ?_
  refine z_goi hS hF (fun _ _ ho => va_runV (C := RX5) (n := 2) (As := [.int v1, .int v2]) (rest := []) S (kX5_noteOf l hg hj ho) (cwV 2 S.2.2.2.2 (zgV wm_X5_58 oX5_noteOf) rfl rfl rfl hX5_noteOf ⟨Nat.le_of_ble_eq_true rfl, Nat.le_of_ble_eq_true rfl⟩) ⟨zPc_blind, z_recv hK hR hj rfl rfl, z_pre hK hR⟩ rfl rfl hl.1 rfl (lv_room (Nat.le_of_ble_eq_true rfl)) dX5_cross_3 ⟨Nat.zero_le _, Nat.zero_le _⟩) (fun r22 M21 H locs hR hS hF => ?_)
  refine lv_bipush (v := (-6)) S.1 S.2.1 dX5_cross_6 (by decide) ?_
  refine lv_icmp_eq (tgt := 15) S.1 S.2.1 dX5_cross_8 (by decide) (fun hc23 => ?_) (fun hc23 => ?_)
  · replace hF := z_ct hF hc23
    refine lv_iconst (v := 0) S.1 S.2.1 dX5_cross_15 (by decide) ?_
    exact z_zretc S hr hlk hR hS (by decide) hF dX5_cross_16
  · replace hF := z_cf hF hc23
    refine lv_iconst (v := 1) S.1 S.2.1 dX5_cross_11 (by decide) ?_
    refine lv_goto (tgt := 16) S.1 S.2.1 dX5_cross_12 (by decide) ?_
    exact z_zretc S hr hlk hR hS (by decide) hF dX5_cross_16
theorem hX5_placeOn : yX5_placeOn.cls = RX5 ∧ yX5_placeOn.cls ≠ "java/lang/invoke/MethodHandle" ∧ yX5_placeOn.cls ≠ "java/lang/invoke/VarHandle" ∧ (parseMethodDescriptor yX5_placeOn.desc).map (fun d => d.parameters.length) = some 2 := by decide +kernel
theorem oX5_placeOn : Cond.instanceMethod yX5_placeOn ∈ zT ∧ Cond.selects RX5 yX5_placeOn yX5_placeOn ∈ zT ∧ Cond.initialized RX5 ∈ zT ∧ Cond.code yX5_placeOn cX5_placeOn 4 (some .int) ∈ zT := ⟨wv_X5_placeOn, we_X5_placeOn, wi_X5, wk_X5_placeOn⟩
set_option maxRecDepth 100000 in
set_option maxHeartbeats 4000000 in
theorem kX5_placeOn (l : Launch) {g : zGeo} {z : Nat} (hg : zAd g z) {M M' : zM} {j : Nat} (hj : j < 2) {v1 : Int32} {v2 : Int32} {r : Int32} (hF : fX5_placeOn M j v1 v2 = some (r, M')) : Met l yX5_placeOn [.code yX5_placeOn cX5_placeOn 4 (some .int)] { frames := 1, cells := 0, slots := 0, locals := 23 } (zPc g M [.ref (g.1 15 j), .int v1, .int v2]) (zQi g z r M') 0 0 (zS z) := by
  refine z_enter (cc := cX5_placeOn) (maxL := 4) (ret := (some .int)) (by decide) rfl (Nat.le_of_ble_eq_true rfl) ?_
  intro p e s m below meth c S hr hlk hK hR hS ls hl
  have S : CallFix p m c cX5_placeOn 4 s _ zT RX5 := S
  have hl : lv_has ls 4 [(0, .ref (g.1 15 j)), (1, .int v1), (2, .int v2)] := hl
  unfold fX5_placeOn at hF
  refine lv_aload_n S.1 S.2.1 dX5_placeOn_0 rfl (lv_at hl 0 rfl) ?_
  refine lv_iload_n S.1 S.2.1 dX5_placeOn_1 rfl (lv_at hl 1 rfl) ?_
  refine lv_iload_n S.1 S.2.1 dX5_placeOn_2 rfl (lv_at hl 2 rfl) ?_
  refine z_goi hS hF (fun _ _ ho => va_runV (C := RX5) (n := 2) (As := [.int v1, .int v2]) (rest := []) S (kX5_noteOf l hg hj ho) (cwV 2 S.2.2.2.2 (zgV wm_X5_58 oX5_noteOf) rfl rfl rfl hX5_noteOf ⟨Nat.le_of_ble_eq_true rfl, Nat.le_of_ble_eq_true rfl⟩) ⟨zPc_blind, z_recv hK hR hj rfl rfl, z_pre hK hR⟩ rfl rfl hl.1 rfl (lv_room (Nat.le_of_ble_eq_true rfl)) dX5_placeOn_3 ⟨Nat.zero_le _, Nat.zero_le _⟩) (fun r22 M21 H locs hR hS hF => ?_)
  refine lv_istore_n (lv' := [(3, .int r22), (0, .ref (g.1 15 j)), (1, .int v1), (2, .int v2)]) S.1 S.2.1 dX5_placeOn_6 rfl hl (by decide) rfl (fun ls hl => ?_)
  refine lv_iload_n S.1 S.2.1 dX5_placeOn_7 rfl (lv_at hl 0 rfl) ?_
  refine lv_bipush (v := (-6)) S.1 S.2.1 dX5_placeOn_8 (by decide) ?_
  refine lv_icmp_ne (tgt := 18) S.1 S.2.1 dX5_placeOn_10 (by decide) (fun hc23 => ?_) (fun hc23 => ?_)
  · replace hF := z_cf hF hc23
    refine lv_aload_n S.1 S.2.1 dX5_placeOn_18 rfl (lv_at hl 1 rfl) ?_
    refine z_get (k := 15) (i := j) (f := 2) (v := .ref (g.1 18 j)) S hK hR hj rfl rfl (by decide) wf_X5_18 rfl dX5_placeOn_19 ?_
    refine lv_iload_n S.1 S.2.1 dX5_placeOn_22 rfl (lv_at hl 0 rfl) ?_
    refine z_iald (k := 18) (i := j) (n := 30) S hK hR hF hj rfl dX5_placeOn_23 (fun hF => ?_)
    exact z_iret S hr hlk hR hS hF dX5_placeOn_24
  · replace hF := z_ct hF hc23
    refine lv_bipush (v := (-6)) S.1 S.2.1 dX5_placeOn_13 (by decide) ?_
    refine lv_goto (tgt := 24) S.1 S.2.1 dX5_placeOn_15 (by decide) ?_
    exact z_iret S hr hlk hR hS hF dX5_placeOn_24
theorem hX5_isSteep : yX5_isSteep.cls = RX5 ∧ yX5_isSteep.cls ≠ "java/lang/invoke/MethodHandle" ∧ yX5_isSteep.cls ≠ "java/lang/invoke/VarHandle" ∧ (parseMethodDescriptor yX5_isSteep.desc).map (fun d => d.parameters.length) = some 2 := by decide +kernel
theorem oX5_isSteep : Cond.instanceMethod yX5_isSteep ∈ zT ∧ Cond.selects RX5 yX5_isSteep yX5_isSteep ∈ zT ∧ Cond.initialized RX5 ∈ zT ∧ Cond.code yX5_isSteep cX5_isSteep 4 (some .boolean) ∈ zT := ⟨wv_X5_isSteep, we_X5_isSteep, wi_X5, wk_X5_isSteep⟩
set_option maxRecDepth 100000 in
set_option maxHeartbeats 4000000 in
theorem kX5_isSteep (l : Launch) {g : zGeo} {z : Nat} (hg : zAd g z) {M M' : zM} {j : Nat} (hj : j < 2) {v1 : Int32} {v2 : Int32} {r : Int32} (hF : fX5_isSteep M j v1 v2 = some (r, M')) : Met l yX5_isSteep [.code yX5_isSteep cX5_isSteep 4 (some .boolean)] { frames := 1, cells := 0, slots := 0, locals := 23 } (zPc g M [.ref (g.1 15 j), .int v1, .int v2]) (zQi g z r M') 0 0 (zS z) := by
  refine z_enter (cc := cX5_isSteep) (maxL := 4) (ret := (some .boolean)) (by decide) rfl (Nat.le_of_ble_eq_true rfl) ?_
  intro p e s m below meth c S hr hlk hK hR hS ls hl
  have S : CallFix p m c cX5_isSteep 4 s _ zT RX5 := S
  have hl : lv_has ls 4 [(0, .ref (g.1 15 j)), (1, .int v1), (2, .int v2)] := hl
  unfold fX5_isSteep at hF
  refine lv_aload_n S.1 S.2.1 dX5_isSteep_0 rfl (lv_at hl 0 rfl) ?_
  refine lv_iload_n S.1 S.2.1 dX5_isSteep_1 rfl (lv_at hl 1 rfl) ?_
  refine lv_iload_n S.1 S.2.1 dX5_isSteep_2 rfl (lv_at hl 2 rfl) ?_
  refine z_goi hS hF (fun _ _ ho => va_runV (C := RX5) (n := 2) (As := [.int v1, .int v2]) (rest := []) S (kX5_noteOf l hg hj ho) (cwV 2 S.2.2.2.2 (zgV wm_X5_58 oX5_noteOf) rfl rfl rfl hX5_noteOf ⟨Nat.le_of_ble_eq_true rfl, Nat.le_of_ble_eq_true rfl⟩) ⟨zPc_blind, z_recv hK hR hj rfl rfl, z_pre hK hR⟩ rfl rfl hl.1 rfl (lv_room (Nat.le_of_ble_eq_true rfl)) dX5_isSteep_3 ⟨Nat.zero_le _, Nat.zero_le _⟩) (fun r22 M21 H locs hR hS hF => ?_)
  refine lv_istore_n (lv' := [(3, .int r22), (0, .ref (g.1 15 j)), (1, .int v1), (2, .int v2)]) S.1 S.2.1 dX5_isSteep_6 rfl hl (by decide) rfl (fun ls hl => ?_)
  refine lv_iload_n S.1 S.2.1 dX5_isSteep_7 rfl (lv_at hl 0 rfl) ?_
  refine lv_bipush (v := (-6)) S.1 S.2.1 dX5_isSteep_8 (by decide) ?_
  refine lv_icmp_eq (tgt := 26) S.1 S.2.1 dX5_isSteep_10 (by decide) (fun hc23 => ?_) (fun hc23 => ?_)
  · replace hF := z_ct hF hc23
    refine lv_iconst (v := 0) S.1 S.2.1 dX5_isSteep_26 (by decide) ?_
    exact z_zretc S hr hlk hR hS (by decide) hF dX5_isSteep_27
  · replace hF := z_cf hF hc23
    refine lv_aload_n S.1 S.2.1 dX5_isSteep_13 rfl (lv_at hl 1 rfl) ?_
    refine z_get (k := 15) (i := j) (f := 3) (v := .ref (g.1 19 j)) S hK hR hj rfl rfl (by decide) wf_X5_21 rfl dX5_isSteep_14 ?_
    refine lv_iload_n S.1 S.2.1 dX5_isSteep_17 rfl (lv_at hl 0 rfl) ?_
    refine z_zald (k := 19) (i := j) (n := 30) S hK hR hF hj rfl dX5_isSteep_18 (fun hF => ?_)
    refine lv_if_eq (tgt := 26) S.1 S.2.1 dX5_isSteep_19 (by decide) (fun hc24 => ?_) (fun hc24 => ?_)
    · replace hF := z_ct hF hc24
      refine lv_iconst (v := 0) S.1 S.2.1 dX5_isSteep_26 (by decide) ?_
      exact z_zretc S hr hlk hR hS (by decide) hF dX5_isSteep_27
    · replace hF := z_cf hF hc24
      refine lv_iconst (v := 1) S.1 S.2.1 dX5_isSteep_22 (by decide) ?_
      refine lv_goto (tgt := 27) S.1 S.2.1 dX5_isSteep_23 (by decide) ?_
      exact z_zretc S hr hlk hR hS (by decide) hF dX5_isSteep_27
theorem hX5_crossersOf : yX5_crossersOf.cls = RX5 ∧ yX5_crossersOf.cls ≠ "java/lang/invoke/MethodHandle" ∧ yX5_crossersOf.cls ≠ "java/lang/invoke/VarHandle" ∧ (parseMethodDescriptor yX5_crossersOf.desc).map (fun d => d.parameters.length) = some 1 := by decide +kernel
theorem oX5_crossersOf : Cond.instanceMethod yX5_crossersOf ∈ zT ∧ Cond.selects RX5 yX5_crossersOf yX5_crossersOf ∈ zT ∧ Cond.initialized RX5 ∈ zT ∧ Cond.code yX5_crossersOf cX5_crossersOf 4 (some .int) ∈ zT := ⟨wv_X5_crossersOf, we_X5_crossersOf, wi_X5, wk_X5_crossersOf⟩
set_option maxRecDepth 100000 in
set_option maxHeartbeats 4000000 in
theorem kX5_crossersOf (l : Launch) {g : zGeo} {z : Nat} (hg : zAd g z) {M M' : zM} {j : Nat} (hj : j < 2) {v1 : Int32} {r : Int32} (hF : fX5_crossersOf M j v1 = some (r, M')) : Met l yX5_crossersOf [.code yX5_crossersOf cX5_crossersOf 4 (some .int)] { frames := 0, cells := 0, slots := 0, locals := 0 } (zPc g M [.ref (g.1 15 j), .int v1]) (zQi g z r M') 0 0 (zS z) := by
  refine z_enter (cc := cX5_crossersOf) (maxL := 4) (ret := (some .int)) (by decide) rfl (Nat.le_of_ble_eq_true rfl) ?_
  intro p e s m below meth c S hr hlk hK hR hS ls hl
  have S : CallFix p m c cX5_crossersOf 4 s _ zT RX5 := S
  have hl : lv_has ls 4 [(0, .ref (g.1 15 j)), (1, .int v1)] := hl
  have L4 : ∀ (k : zM → Int32 → Int32 → Option (Int32 × zM)) (a1 : Int32), (∀ (M : zM) (a2 : Int32) (a3 : Int32) (H : Heap) (locs : List Loc), zR g M H → va_S (zS z) s.heap H locs → ∀ ls : Array Slot, lv_has ls 4 [(0, .ref (g.1 15 j)), (1, .int a1), (2, .int a2), (3, .int a3)] → k M a2 a3 = some (r, M') → W p l e { frames := 0, cells := 0, slots := 0, locals := 0 } s m ([.ref (g.1 15 j), .int v1] : List Value).toArray below meth c H locs 0 0 (MQ below (zQi g z r M') ([.ref (g.1 15 j), .int v1] : List Value).toArray s 0 0 (zS z)) (F0 m 45 ls [])) → ∀ (n : Nat) (M : zM) (a2 : Int32) (a3 : Int32) (H : Heap) (locs : List Loc), zR g M H → va_S (zS z) s.heap H locs → ∀ ls : Array Slot, lv_has ls 4 [(0, .ref (g.1 15 j)), (1, .int a1), (2, .int a2), (3, .int a3)] → fX5_crossersOf_L4 k j a1 n M a2 a3 = some (r, M') → W p l e { frames := 0, cells := 0, slots := 0, locals := 0 } s m ([.ref (g.1 15 j), .int v1] : List Value).toArray below meth c H locs 0 0 (MQ below (zQi g z r M') ([.ref (g.1 15 j), .int v1] : List Value).toArray s 0 0 (zS z)) (F0 m 4 ls []) := by
    intro k a1 hk n
    induction n with
    | zero =>
      intro M a2 a3 H locs hR hS ls hl hF
      cases hF
    | succ n ih =>
      intro M a2 a3 H locs hR hS ls hl hF
      unfold fX5_crossersOf_L4 at hF
      refine lv_iload_n S.1 S.2.1 dX5_crossersOf_4 rfl (lv_at hl 3 rfl) ?_
      refine lv_aload_n S.1 S.2.1 dX5_crossersOf_5 rfl (lv_at hl 0 rfl) ?_
      refine z_get (k := 15) (i := j) (f := 4) (v := .int (M 15 j 4)) S hK hR hj rfl rfl (by decide) wf_X5_25 rfl dX5_crossersOf_6 ?_
      refine lv_icmp_ge (tgt := 45) S.1 S.2.1 dX5_crossersOf_9 (by decide) (fun hc21 => ?_) (fun hc21 => ?_)
      · replace hF := z_ct hF hc21
        exact hk _ _ _ _ _ hR hS _ (lv_sub hl [0, 1, 2, 3] rfl) hF
      · replace hF := z_cf hF hc21
        refine lv_iload_n S.1 S.2.1 dX5_crossersOf_12 rfl (lv_at hl 3 rfl) ?_
        refine lv_bipush (v := 30) S.1 S.2.1 dX5_crossersOf_13 (by decide) ?_
        refine lv_icmp_ge (tgt := 45) S.1 S.2.1 dX5_crossersOf_15 (by decide) (fun hc22 => ?_) (fun hc22 => ?_)
        · replace hF := z_ct hF hc22
          exact hk _ _ _ _ _ hR hS _ (lv_sub hl [0, 1, 2, 3] rfl) hF
        · replace hF := z_cf hF hc22
          refine lv_aload_n S.1 S.2.1 dX5_crossersOf_18 rfl (lv_at hl 0 rfl) ?_
          refine z_get (k := 15) (i := j) (f := 0) (v := .ref (g.1 16 j)) S hK hR hj rfl rfl (by decide) wf_X5_11 rfl dX5_crossersOf_19 ?_
          refine lv_iload_n S.1 S.2.1 dX5_crossersOf_22 rfl (lv_at hl 3 rfl) ?_
          refine z_iald (k := 16) (i := j) (n := 30) S hK hR hF hj rfl dX5_crossersOf_23 (fun hF => ?_)
          refine lv_iload_n S.1 S.2.1 dX5_crossersOf_24 rfl (lv_at hl 1 rfl) ?_
          refine lv_icmp_ne (tgt := 39) S.1 S.2.1 dX5_crossersOf_25 (by decide) (fun hc23 => ?_) (fun hc23 => ?_)
          · replace hF := z_cf hF hc23
            obtain ⟨v24, ev24, hF⟩ := zL_out hF
            refine lv_iinc (v := v24) (lv' := [(3, .int v24), (0, .ref (g.1 15 j)), (1, .int a1), (2, .int a2)]) S.1 S.2.1 dX5_crossersOf_39 hl (k := 3) rfl (by rw [← ev24]; rfl) (by decide) rfl (fun ls hl => ?_)
            refine lv_goto (tgt := 4) S.1 S.2.1 dX5_crossersOf_42 (by decide) ?_
            exact ih _ _ _ _ _ hR hS _ (lv_sub hl [1, 2, 3, 0] rfl) hF
          · replace hF := z_ct hF hc23
            refine lv_iload_n S.1 S.2.1 dX5_crossersOf_28 rfl (lv_at hl 2 rfl) ?_
            refine lv_iconst (v := 1) S.1 S.2.1 dX5_crossersOf_29 (by decide) ?_
            refine lv_aload_n S.1 S.2.1 dX5_crossersOf_30 rfl (lv_at hl 0 rfl) ?_
            refine z_get (k := 15) (i := j) (f := 1) (v := .ref (g.1 17 j)) S hK hR hj rfl rfl (by decide) wf_X5_15 rfl dX5_crossersOf_31 ?_
            refine lv_iload_n S.1 S.2.1 dX5_crossersOf_34 rfl (lv_at hl 3 rfl) ?_
            refine z_iald (k := 17) (i := j) (n := 30) S hK hR hF hj rfl dX5_crossersOf_35 (fun hF => ?_)
            refine lv_ishl S.1 S.2.1 dX5_crossersOf_36 ?_
            refine lv_ior S.1 S.2.1 dX5_crossersOf_37 ?_
            refine z_nm hF (fun v25 hF => ?_)
            refine lv_istore_n (lv' := [(2, .int v25), (0, .ref (g.1 15 j)), (1, .int a1), (3, .int a3)]) S.1 S.2.1 dX5_crossersOf_38 rfl hl (by decide) rfl (fun ls hl => ?_)
            obtain ⟨v26, ev26, hF⟩ := zL_out hF
            refine lv_iinc (v := v26) (lv' := [(3, .int v26), (2, .int v25), (0, .ref (g.1 15 j)), (1, .int a1)]) S.1 S.2.1 dX5_crossersOf_39 hl (k := 3) rfl (by rw [← ev26]; rfl) (by decide) rfl (fun ls hl => ?_)
            refine lv_goto (tgt := 4) S.1 S.2.1 dX5_crossersOf_42 (by decide) ?_
            exact ih _ _ _ _ _ hR hS _ (lv_sub hl [2, 3, 1, 0] rfl) hF
  unfold fX5_crossersOf at hF
  refine lv_iconst (v := 0) S.1 S.2.1 dX5_crossersOf_0 (by decide) ?_
  refine lv_istore_n (lv' := [(2, .int 0), (0, .ref (g.1 15 j)), (1, .int v1)]) S.1 S.2.1 dX5_crossersOf_1 rfl hl (by decide) rfl (fun ls hl => ?_)
  refine lv_iconst (v := 0) S.1 S.2.1 dX5_crossersOf_2 (by decide) ?_
  refine lv_istore_n (lv' := [(3, .int 0), (2, .int 0), (0, .ref (g.1 15 j)), (1, .int v1)]) S.1 S.2.1 dX5_crossersOf_3 rfl hl (by decide) rfl (fun ls hl => ?_)
  refine L4 _ _ (fun M27 v28 v29 H locs hR hS ls hl hF => ?_) _ _ _ _ _ _ hR hS _ (lv_sub hl [2, 3, 1, 0] rfl) hF
  refine lv_iload_n S.1 S.2.1 dX5_crossersOf_45 rfl (lv_at hl 2 rfl) ?_
  exact z_iret S hr hlk hR hS hF dX5_crossersOf_46
theorem hX4_wearStrings : yX4_wearStrings.cls = RX4 ∧ yX4_wearStrings.cls ≠ "java/lang/invoke/MethodHandle" ∧ yX4_wearStrings.cls ≠ "java/lang/invoke/VarHandle" ∧ (parseMethodDescriptor yX4_wearStrings.desc).map (fun d => d.parameters.length) = some 1 := by decide +kernel
theorem oX4_wearStrings : Cond.instanceMethod yX4_wearStrings ∈ zT ∧ Cond.selects RX4 yX4_wearStrings yX4_wearStrings ∈ zT ∧ Cond.initialized RX4 ∈ zT ∧ Cond.code yX4_wearStrings cX4_wearStrings 5 none ∈ zT := ⟨wv_X4_wearStrings, we_X4_wearStrings, wi_X4, wk_X4_wearStrings⟩
set_option maxRecDepth 100000 in
set_option maxHeartbeats 4000000 in
theorem kX4_wearStrings (l : Launch) {g : zGeo} {z : Nat} (hg : zAd g z) {M M' : zM} {j1 : Nat} (hj1 : j1 < 10) {r : Unit} (hF : fX4_wearStrings M j1 = some (r, M')) : Met l yX4_wearStrings [.code yX4_wearStrings cX4_wearStrings 5 none] { frames := 3, cells := 0, slots := 0, locals := 67 } (zPc g M [.ref (g.1 20 0), .ref (g.1 1 j1)]) (zQv g z M') 0 0 (zS z) := by
  refine z_enter (cc := cX4_wearStrings) (maxL := 5) (ret := none) (by decide) rfl (Nat.le_of_ble_eq_true rfl) ?_
  intro p e s m below meth c S hr hlk hK hR hS ls hl
  have S : CallFix p m c cX4_wearStrings 5 s _ zT RX4 := S
  have hl : lv_has ls 5 [(0, .ref (g.1 20 0)), (1, .ref (g.1 1 j1))] := hl
  have L2 : ∀ (k : zM → Int32 → Option (Unit × zM)) , (∀ (M : zM) (a2 : Int32) (H : Heap) (locs : List Loc), zR g M H → va_S (zS z) s.heap H locs → ∀ ls : Array Slot, lv_has ls 5 [(0, .ref (g.1 20 0)), (1, .ref (g.1 1 j1)), (2, .int a2)] → k M a2 = some (r, M') → W p l e { frames := 3, cells := 0, slots := 0, locals := 67 } s m ([.ref (g.1 20 0), .ref (g.1 1 j1)] : List Value).toArray below meth c H locs 0 0 (MQ below (zQv g z M') ([.ref (g.1 20 0), .ref (g.1 1 j1)] : List Value).toArray s 0 0 (zS z)) (F0 m 76 ls [])) → ∀ (n : Nat) (M : zM) (a2 : Int32) (H : Heap) (locs : List Loc), zR g M H → va_S (zS z) s.heap H locs → ∀ ls : Array Slot, lv_has ls 5 [(0, .ref (g.1 20 0)), (1, .ref (g.1 1 j1)), (2, .int a2)] → fX4_wearStrings_L2 k j1 n M a2 = some (r, M') → W p l e { frames := 3, cells := 0, slots := 0, locals := 67 } s m ([.ref (g.1 20 0), .ref (g.1 1 j1)] : List Value).toArray below meth c H locs 0 0 (MQ below (zQv g z M') ([.ref (g.1 20 0), .ref (g.1 1 j1)] : List Value).toArray s 0 0 (zS z)) (F0 m 2 ls []) := by
    intro k  hk n
    induction n with
    | zero =>
      intro M a2 H locs hR hS ls hl hF
      cases hF
    | succ n ih =>
      intro M a2 H locs hR hS ls hl hF
      unfold fX4_wearStrings_L2 at hF
      refine lv_iload_n S.1 S.2.1 dX4_wearStrings_2 rfl (lv_at hl 2 rfl) ?_
      refine lv_aload_n S.1 S.2.1 dX4_wearStrings_3 rfl (lv_at hl 0 rfl) ?_
      refine z_get (k := 20) (i := 0) (f := 0) (v := .ref (g.1 15 1)) S hK hR (by decide) rfl rfl (by decide) wf_X4_12 rfl dX4_wearStrings_4 ?_
      refine z_get (k := 15) (i := 1) (f := 4) (v := .int (M 15 1 4)) S hK hR (by decide) rfl rfl (by decide) wf_X4_51 rfl dX4_wearStrings_7 ?_
      refine lv_icmp_ge (tgt := 76) S.1 S.2.1 dX4_wearStrings_10 (by decide) (fun hc21 => ?_) (fun hc21 => ?_)
      · replace hF := z_ct hF hc21
        exact hk _ _ _ _ hR hS _ (lv_sub hl [0, 1, 2] rfl) hF
      · replace hF := z_cf hF hc21
        refine lv_iload_n S.1 S.2.1 dX4_wearStrings_13 rfl (lv_at hl 2 rfl) ?_
        refine lv_bipush (v := 30) S.1 S.2.1 dX4_wearStrings_14 (by decide) ?_
        refine lv_icmp_ge (tgt := 76) S.1 S.2.1 dX4_wearStrings_16 (by decide) (fun hc22 => ?_) (fun hc22 => ?_)
        · replace hF := z_ct hF hc22
          exact hk _ _ _ _ hR hS _ (lv_sub hl [0, 1, 2] rfl) hF
        · replace hF := z_cf hF hc22
          refine lv_aload_n S.1 S.2.1 dX4_wearStrings_19 rfl (lv_at hl 0 rfl) ?_
          refine z_get (k := 20) (i := 0) (f := 0) (v := .ref (g.1 15 1)) S hK hR (by decide) rfl rfl (by decide) wf_X4_12 rfl dX4_wearStrings_20 ?_
          refine z_get (k := 15) (i := 1) (f := 0) (v := .ref (g.1 16 1)) S hK hR (by decide) rfl rfl (by decide) wf_X4_54 rfl dX4_wearStrings_23 ?_
          refine lv_iload_n S.1 S.2.1 dX4_wearStrings_26 rfl (lv_at hl 2 rfl) ?_
          refine z_iald (k := 16) (i := 1) (n := 30) S hK hR hF (by decide) rfl dX4_wearStrings_27 (fun hF => ?_)
          refine z_nm hF (fun v23 hF => ?_)
          refine lv_istore_n (lv' := [(3, .int v23), (0, .ref (g.1 20 0)), (1, .ref (g.1 1 j1)), (2, .int a2)]) S.1 S.2.1 dX4_wearStrings_28 rfl hl (by decide) rfl (fun ls hl => ?_)
          refine lv_aload_n S.1 S.2.1 dX4_wearStrings_29 rfl (lv_at hl 2 rfl) ?_
          refine lv_iload_n S.1 S.2.1 dX4_wearStrings_30 rfl (lv_at hl 0 rfl) ?_
          refine lv_aload_n S.1 S.2.1 dX4_wearStrings_31 rfl (lv_at hl 1 rfl) ?_
          refine z_get (k := 20) (i := 0) (f := 0) (v := .ref (g.1 15 1)) S hK hR (by decide) rfl rfl (by decide) wf_X4_12 rfl dX4_wearStrings_32 ?_
          refine z_get (k := 15) (i := 1) (f := 1) (v := .ref (g.1 17 1)) S hK hR (by decide) rfl rfl (by decide) wf_X4_58 rfl dX4_wearStrings_35 ?_
          refine lv_iload_n S.1 S.2.1 dX4_wearStrings_38 rfl (lv_at hl 3 rfl) ?_
          refine z_iald (k := 17) (i := 1) (n := 30) S hK hR hF (by decide) rfl dX4_wearStrings_39 (fun hF => ?_)
          refine lv_aload_n S.1 S.2.1 dX4_wearStrings_40 rfl (lv_at hl 1 rfl) ?_
          refine z_get (k := 20) (i := 0) (f := 0) (v := .ref (g.1 15 1)) S hK hR (by decide) rfl rfl (by decide) wf_X4_12 rfl dX4_wearStrings_41 ?_
          refine z_get (k := 15) (i := 1) (f := 3) (v := .ref (g.1 19 1)) S hK hR (by decide) rfl rfl (by decide) wf_X4_61 rfl dX4_wearStrings_44 ?_
          refine lv_iload_n S.1 S.2.1 dX4_wearStrings_47 rfl (lv_at hl 3 rfl) ?_
          refine z_zald (k := 19) (i := 1) (n := 30) S hK hR hF (by decide) rfl dX4_wearStrings_48 (fun hF => ?_)
          refine z_goi hS hF (fun _ _ ho => va_runV (C := RX2) (n := 3) (As := [.int v23, .int (M 17 1 (zN a2)), .int (M 19 1 (zN a2))]) (rest := []) S (kX2_rubbing l hg hj1 ho) (cwV 3 S.2.2.2.2 (zgV wm_X4_65 oX2_rubbing) rfl rfl rfl hX2_rubbing ⟨Nat.le_of_ble_eq_true rfl, Nat.le_of_ble_eq_true rfl⟩) ⟨zPc_blind, z_recv hK hR hj1 rfl rfl, z_pre hK hR⟩ rfl rfl hl.1 rfl (lv_room (Nat.le_of_ble_eq_true rfl)) dX4_wearStrings_49 ⟨Nat.zero_le _, Nat.zero_le _⟩) (fun r25 M24 H locs hR hS hF => ?_)
          refine lv_istore (lv' := [(4, .int r25), (3, .int v23), (0, .ref (g.1 20 0)), (1, .ref (g.1 1 j1)), (2, .int a2)]) S.1 S.2.1 dX4_wearStrings_52 hl (by decide) rfl (fun ls hl => ?_)
          refine lv_aload_n S.1 S.2.1 dX4_wearStrings_54 rfl (lv_at hl 3 rfl) ?_
          refine lv_iload_n S.1 S.2.1 dX4_wearStrings_55 rfl (lv_at hl 1 rfl) ?_
          refine lv_aload_n S.1 S.2.1 dX4_wearStrings_56 rfl (lv_at hl 2 rfl) ?_
          refine z_get (k := 20) (i := 0) (f := 0) (v := .ref (g.1 15 1)) S hK hR (by decide) rfl rfl (by decide) wf_X4_12 rfl dX4_wearStrings_57 ?_
          refine z_get (k := 15) (i := 1) (f := 2) (v := .ref (g.1 18 1)) S hK hR (by decide) rfl rfl (by decide) wf_X4_69 rfl dX4_wearStrings_60 ?_
          refine lv_iload_n S.1 S.2.1 dX4_wearStrings_63 rfl (lv_at hl 4 rfl) ?_
          refine z_iald (k := 18) (i := 1) (n := 30) S hK hR hF (by decide) rfl dX4_wearStrings_64 (fun hF => ?_)
          refine lv_iload S.1 S.2.1 dX4_wearStrings_65 (lv_at hl 0 rfl) ?_
          refine z_gov hS hF (fun _ _ ho => va_runV (C := RX2) (n := 3) (As := [.int v23, .int (M24 18 1 (zN a2)), .int r25]) (rest := []) S (kX2_wearDown l hg hj1 ho) (cwV 3 S.2.2.2.2 (zgV wm_X4_72 oX2_wearDown) rfl rfl rfl hX2_wearDown ⟨Nat.le_of_ble_eq_true rfl, Nat.le_of_ble_eq_true rfl⟩) ⟨zPc_blind, z_recv hK hR hj1 rfl rfl, z_pre hK hR⟩ rfl rfl hl.1 rfl (lv_room (Nat.le_of_ble_eq_true rfl)) dX4_wearStrings_67 ⟨Nat.zero_le _, Nat.zero_le _⟩) (fun M26 H locs hR hS hF => ?_)
          obtain ⟨v27, ev27, hF⟩ := zL_out hF
          refine lv_iinc (v := v27) (lv' := [(2, .int v27), (4, .int r25), (3, .int v23), (0, .ref (g.1 20 0)), (1, .ref (g.1 1 j1))]) S.1 S.2.1 dX4_wearStrings_70 hl (k := 4) rfl (by rw [← ev27]; rfl) (by decide) rfl (fun ls hl => ?_)
          refine lv_goto (tgt := 2) S.1 S.2.1 dX4_wearStrings_73 (by decide) ?_
          exact ih _ _ _ _ hR hS _ (lv_sub hl [3, 4, 0] rfl) hF
  unfold fX4_wearStrings at hF
  refine lv_iconst (v := 0) S.1 S.2.1 dX4_wearStrings_0 (by decide) ?_
  refine lv_istore_n (lv' := [(2, .int 0), (0, .ref (g.1 20 0)), (1, .ref (g.1 1 j1))]) S.1 S.2.1 dX4_wearStrings_1 rfl hl (by decide) rfl (fun ls hl => ?_)
  refine L2 _ (fun M28 v29 H locs hR hS ls hl hF => ?_) _ _ _ _ _ hR hS _ (lv_sub hl [1, 2, 0] rfl) hF
  exact z_vret S hr hlk hR hS hF dX4_wearStrings_76
theorem hX4_givePoints : yX4_givePoints.cls = RX4 ∧ yX4_givePoints.cls ≠ "java/lang/invoke/MethodHandle" ∧ yX4_givePoints.cls ≠ "java/lang/invoke/VarHandle" ∧ (parseMethodDescriptor yX4_givePoints.desc).map (fun d => d.parameters.length) = some 1 := by decide +kernel
theorem oX4_givePoints : Cond.instanceMethod yX4_givePoints ∈ zT ∧ Cond.selects RX4 yX4_givePoints yX4_givePoints ∈ zT ∧ Cond.initialized RX4 ∈ zT ∧ Cond.code yX4_givePoints cX4_givePoints 5 none ∈ zT := ⟨wv_X4_givePoints, we_X4_givePoints, wi_X4, wk_X4_givePoints⟩
set_option maxRecDepth 100000 in
set_option maxHeartbeats 4000000 in
theorem kX4_givePoints (l : Launch) {g : zGeo} {z : Nat} (hg : zAd g z) {M M' : zM} {j1 : Nat} (hj1 : j1 < 10) {r : Unit} (hF : fX4_givePoints M j1 = some (r, M')) : Met l yX4_givePoints [.code yX4_givePoints cX4_givePoints 5 none] { frames := 4, cells := 0, slots := 0, locals := 88 } (zPc g M [.ref (g.1 20 0), .ref (g.1 1 j1)]) (zQv g z M') 0 0 (zS z) := by
  refine z_enter (cc := cX4_givePoints) (maxL := 5) (ret := none) (by decide) rfl (Nat.le_of_ble_eq_true rfl) ?_
  intro p e s m below meth c S hr hlk hK hR hS ls hl
  have S : CallFix p m c cX4_givePoints 5 s _ zT RX4 := S
  have hl : lv_has ls 5 [(0, .ref (g.1 20 0)), (1, .ref (g.1 1 j1))] := hl
  have L2 : ∀ (k : zM → Int32 → Option (Unit × zM)) , (∀ (M : zM) (a2 : Int32) (H : Heap) (locs : List Loc), zR g M H → va_S (zS z) s.heap H locs → ∀ ls : Array Slot, lv_has ls 5 [(0, .ref (g.1 20 0)), (1, .ref (g.1 1 j1)), (2, .int a2)] → k M a2 = some (r, M') → W p l e { frames := 4, cells := 0, slots := 0, locals := 88 } s m ([.ref (g.1 20 0), .ref (g.1 1 j1)] : List Value).toArray below meth c H locs 0 0 (MQ below (zQv g z M') ([.ref (g.1 20 0), .ref (g.1 1 j1)] : List Value).toArray s 0 0 (zS z)) (F0 m 108 ls [])) → ∀ (n : Nat) (M : zM) (a2 : Int32) (H : Heap) (locs : List Loc), zR g M H → va_S (zS z) s.heap H locs → ∀ ls : Array Slot, lv_has ls 5 [(0, .ref (g.1 20 0)), (1, .ref (g.1 1 j1)), (2, .int a2)] → fX4_givePoints_L2 k j1 n M a2 = some (r, M') → W p l e { frames := 4, cells := 0, slots := 0, locals := 88 } s m ([.ref (g.1 20 0), .ref (g.1 1 j1)] : List Value).toArray below meth c H locs 0 0 (MQ below (zQv g z M') ([.ref (g.1 20 0), .ref (g.1 1 j1)] : List Value).toArray s 0 0 (zS z)) (F0 m 2 ls []) := by
    intro k  hk n
    induction n with
    | zero =>
      intro M a2 H locs hR hS ls hl hF
      cases hF
    | succ n ih =>
      intro M a2 H locs hR hS ls hl hF
      unfold fX4_givePoints_L2 at hF
      refine lv_iload_n S.1 S.2.1 dX4_givePoints_2 rfl (lv_at hl 2 rfl) ?_
      refine lv_aload_n S.1 S.2.1 dX4_givePoints_3 rfl (lv_at hl 0 rfl) ?_
      refine z_get (k := 20) (i := 0) (f := 0) (v := .ref (g.1 15 1)) S hK hR (by decide) rfl rfl (by decide) wf_X4_12 rfl dX4_givePoints_4 ?_
      refine z_get (k := 15) (i := 1) (f := 4) (v := .int (M 15 1 4)) S hK hR (by decide) rfl rfl (by decide) wf_X4_51 rfl dX4_givePoints_7 ?_
      refine lv_icmp_ge (tgt := 108) S.1 S.2.1 dX4_givePoints_10 (by decide) (fun hc21 => ?_) (fun hc21 => ?_)
      · replace hF := z_ct hF hc21
        exact hk _ _ _ _ hR hS _ (lv_sub hl [0, 1, 2] rfl) hF
      · replace hF := z_cf hF hc21
        refine lv_iload_n S.1 S.2.1 dX4_givePoints_13 rfl (lv_at hl 2 rfl) ?_
        refine lv_bipush (v := 30) S.1 S.2.1 dX4_givePoints_14 (by decide) ?_
        refine lv_icmp_ge (tgt := 108) S.1 S.2.1 dX4_givePoints_16 (by decide) (fun hc22 => ?_) (fun hc22 => ?_)
        · replace hF := z_ct hF hc22
          exact hk _ _ _ _ hR hS _ (lv_sub hl [0, 1, 2] rfl) hF
        · replace hF := z_cf hF hc22
          refine lv_aload_n S.1 S.2.1 dX4_givePoints_19 rfl (lv_at hl 0 rfl) ?_
          refine z_get (k := 20) (i := 0) (f := 0) (v := .ref (g.1 15 1)) S hK hR (by decide) rfl rfl (by decide) wf_X4_12 rfl dX4_givePoints_20 ?_
          refine z_get (k := 15) (i := 1) (f := 0) (v := .ref (g.1 16 1)) S hK hR (by decide) rfl rfl (by decide) wf_X4_54 rfl dX4_givePoints_23 ?_
          refine lv_iload_n S.1 S.2.1 dX4_givePoints_26 rfl (lv_at hl 2 rfl) ?_
          refine z_iald (k := 16) (i := 1) (n := 30) S hK hR hF (by decide) rfl dX4_givePoints_27 (fun hF => ?_)
          refine z_nm hF (fun v23 hF => ?_)
          refine lv_istore_n (lv' := [(3, .int v23), (0, .ref (g.1 20 0)), (1, .ref (g.1 1 j1)), (2, .int a2)]) S.1 S.2.1 dX4_givePoints_28 rfl hl (by decide) rfl (fun ls hl => ?_)
          refine lv_aload_n S.1 S.2.1 dX4_givePoints_29 rfl (lv_at hl 1 rfl) ?_
          refine z_get (k := 20) (i := 0) (f := 0) (v := .ref (g.1 15 1)) S hK hR (by decide) rfl rfl (by decide) wf_X4_12 rfl dX4_givePoints_30 ?_
          refine z_get (k := 15) (i := 1) (f := 1) (v := .ref (g.1 17 1)) S hK hR (by decide) rfl rfl (by decide) wf_X4_58 rfl dX4_givePoints_33 ?_
          refine lv_iload_n S.1 S.2.1 dX4_givePoints_36 rfl (lv_at hl 3 rfl) ?_
          refine z_iald (k := 17) (i := 1) (n := 30) S hK hR hF (by decide) rfl dX4_givePoints_37 (fun hF => ?_)
          refine z_nm hF (fun v24 hF => ?_)
          refine lv_istore (lv' := [(4, .int v24), (3, .int v23), (0, .ref (g.1 20 0)), (1, .ref (g.1 1 j1)), (2, .int a2)]) S.1 S.2.1 dX4_givePoints_38 hl (by decide) rfl (fun ls hl => ?_)
          refine lv_aload_n S.1 S.2.1 dX4_givePoints_40 rfl (lv_at hl 3 rfl) ?_
          refine lv_iload_n S.1 S.2.1 dX4_givePoints_41 rfl (lv_at hl 1 rfl) ?_
          refine lv_aload_n S.1 S.2.1 dX4_givePoints_42 rfl (lv_at hl 2 rfl) ?_
          refine z_get (k := 20) (i := 0) (f := 0) (v := .ref (g.1 15 1)) S hK hR (by decide) rfl rfl (by decide) wf_X4_12 rfl dX4_givePoints_43 ?_
          refine z_get (k := 15) (i := 1) (f := 2) (v := .ref (g.1 18 1)) S hK hR (by decide) rfl rfl (by decide) wf_X4_69 rfl dX4_givePoints_46 ?_
          refine lv_iload_n S.1 S.2.1 dX4_givePoints_49 rfl (lv_at hl 4 rfl) ?_
          refine z_iald (k := 18) (i := 1) (n := 30) S hK hR hF (by decide) rfl dX4_givePoints_50 (fun hF => ?_)
          refine z_goi hS hF (fun _ _ ho => va_runV (C := RX2) (n := 2) (As := [.int v23, .int (M 18 1 (zN a2))]) (rest := []) S (kX2_isWornThrough l hg hj1 ho) (cwV 2 S.2.2.2.2 (zgV wm_X4_76 oX2_isWornThrough) rfl rfl rfl hX2_isWornThrough ⟨Nat.le_of_ble_eq_true rfl, Nat.le_of_ble_eq_true rfl⟩) ⟨zPc_blind, z_recv hK hR hj1 rfl rfl, z_pre hK hR⟩ rfl rfl hl.1 rfl (lv_room (Nat.le_of_ble_eq_true rfl)) dX4_givePoints_51 ⟨Nat.zero_le _, Nat.zero_le _⟩) (fun r26 M25 H locs hR hS hF => ?_)
          refine lv_if_eq (tgt := 102) S.1 S.2.1 dX4_givePoints_54 (by decide) (fun hc27 => ?_) (fun hc27 => ?_)
          · replace hF := z_ct hF hc27
            obtain ⟨v28, ev28, hF⟩ := zL_out hF
            refine lv_iinc (v := v28) (lv' := [(2, .int v28), (4, .int v24), (3, .int v23), (0, .ref (g.1 20 0)), (1, .ref (g.1 1 j1))]) S.1 S.2.1 dX4_givePoints_102 hl (k := 4) rfl (by rw [← ev28]; rfl) (by decide) rfl (fun ls hl => ?_)
            refine lv_goto (tgt := 2) S.1 S.2.1 dX4_givePoints_105 (by decide) ?_
            exact ih _ _ _ _ hR hS _ (lv_sub hl [3, 4, 0] rfl) hF
          · replace hF := z_cf hF hc27
            refine lv_aload_n S.1 S.2.1 dX4_givePoints_57 rfl (lv_at hl 3 rfl) ?_
            refine lv_iload S.1 S.2.1 dX4_givePoints_58 (lv_at hl 0 rfl) ?_
            refine z_goi hS hF (fun _ _ ho => va_runV (C := RX2) (n := 1) (As := [.int v24]) (rest := []) S (kX2_has l hg hj1 ho) (cwV 1 S.2.2.2.2 (zgV wm_X4_80 oX2_has) rfl rfl rfl hX2_has ⟨Nat.le_of_ble_eq_true rfl, Nat.le_of_ble_eq_true rfl⟩) ⟨zPc_blind, z_recv hK hR hj1 rfl rfl, z_pre hK hR⟩ rfl rfl hl.1 rfl (lv_room (Nat.le_of_ble_eq_true rfl)) dX4_givePoints_60 ⟨Nat.zero_le _, Nat.zero_le _⟩) (fun r30 M29 H locs hR hS hF => ?_)
            refine lv_if_eq (tgt := 102) S.1 S.2.1 dX4_givePoints_63 (by decide) (fun hc31 => ?_) (fun hc31 => ?_)
            · replace hF := z_ct hF hc31
              obtain ⟨v32, ev32, hF⟩ := zL_out hF
              refine lv_iinc (v := v32) (lv' := [(2, .int v32), (4, .int v24), (3, .int v23), (0, .ref (g.1 20 0)), (1, .ref (g.1 1 j1))]) S.1 S.2.1 dX4_givePoints_102 hl (k := 4) rfl (by rw [← ev32]; rfl) (by decide) rfl (fun ls hl => ?_)
              refine lv_goto (tgt := 2) S.1 S.2.1 dX4_givePoints_105 (by decide) ?_
              exact ih _ _ _ _ hR hS _ (lv_sub hl [3, 4, 0] rfl) hF
            · replace hF := z_cf hF hc31
              refine lv_aload_n S.1 S.2.1 dX4_givePoints_66 rfl (lv_at hl 3 rfl) ?_
              refine z_get (k := 1) (i := j1) (f := 11) (v := .ref (g.1 9 j1)) S hK hR hj1 rfl rfl (by decide) wf_X4_83 rfl dX4_givePoints_67 ?_
              refine lv_iload S.1 S.2.1 dX4_givePoints_70 (lv_at hl 0 rfl) ?_
              refine lv_dup2_11 S.1 S.2.1 dX4_givePoints_72 rfl rfl ?_
              refine z_iald (k := 9) (i := j1) (n := 6) S hK hR hF hj1 rfl dX4_givePoints_73 (fun hF => ?_)
              refine lv_iconst (v := 1) S.1 S.2.1 dX4_givePoints_74 (by decide) ?_
              refine lv_iadd S.1 S.2.1 dX4_givePoints_75 ?_
              refine z_iast (k := 9) (i := j1) (n := 6) S hg hK hR hS hF hj1 rfl dX4_givePoints_76 (fun H locs M33 hR hS hF => ?_)
              refine lv_aload_n S.1 S.2.1 dX4_givePoints_77 rfl (lv_at hl 2 rfl) ?_
              refine lv_dup S.1 S.2.1 dX4_givePoints_78 rfl ?_
              refine z_get (k := 20) (i := 0) (f := 2) (v := .int (M33 20 0 2)) S hK hR (by decide) rfl rfl (by decide) wf_X4_35 rfl dX4_givePoints_79 ?_
              refine lv_iconst (v := 1) S.1 S.2.1 dX4_givePoints_82 (by decide) ?_
              refine lv_iload S.1 S.2.1 dX4_givePoints_83 (lv_at hl 0 rfl) ?_
              refine lv_ishl S.1 S.2.1 dX4_givePoints_85 ?_
              refine lv_ior S.1 S.2.1 dX4_givePoints_86 ?_
              refine z_put (k := 20) (i := 0) (f := 2) (ty := .int) S hg hK hR hS hF (by decide) rfl rfl rfl (by decide) wf_X4_35 rfl (by decide +kernel) rfl rfl (Nat.le_of_ble_eq_true rfl) dX4_givePoints_87 (fun H locs M34 hR hS hF => ?_)
              refine lv_aload_n S.1 S.2.1 dX4_givePoints_90 rfl (lv_at hl 2 rfl) ?_
              refine lv_dup S.1 S.2.1 dX4_givePoints_91 rfl ?_
              refine z_get (k := 20) (i := 0) (f := 1) (v := .int (M34 20 0 1)) S hK hR (by decide) rfl rfl (by decide) wf_X4_32 rfl dX4_givePoints_92 ?_
              refine lv_iconst (v := 1) S.1 S.2.1 dX4_givePoints_95 (by decide) ?_
              refine lv_iload_n S.1 S.2.1 dX4_givePoints_96 rfl (lv_at hl 1 rfl) ?_
              refine lv_ishl S.1 S.2.1 dX4_givePoints_97 ?_
              refine lv_ior S.1 S.2.1 dX4_givePoints_98 ?_
              refine z_put (k := 20) (i := 0) (f := 1) (ty := .int) S hg hK hR hS hF (by decide) rfl rfl rfl (by decide) wf_X4_32 rfl (by decide +kernel) rfl rfl (Nat.le_of_ble_eq_true rfl) dX4_givePoints_99 (fun H locs M35 hR hS hF => ?_)
              obtain ⟨v36, ev36, hF⟩ := zL_out hF
              refine lv_iinc (v := v36) (lv' := [(2, .int v36), (4, .int v24), (3, .int v23), (0, .ref (g.1 20 0)), (1, .ref (g.1 1 j1))]) S.1 S.2.1 dX4_givePoints_102 hl (k := 4) rfl (by rw [← ev36]; rfl) (by decide) rfl (fun ls hl => ?_)
              refine lv_goto (tgt := 2) S.1 S.2.1 dX4_givePoints_105 (by decide) ?_
              exact ih _ _ _ _ hR hS _ (lv_sub hl [3, 4, 0] rfl) hF
  unfold fX4_givePoints at hF
  refine lv_iconst (v := 0) S.1 S.2.1 dX4_givePoints_0 (by decide) ?_
  refine lv_istore_n (lv' := [(2, .int 0), (0, .ref (g.1 20 0)), (1, .ref (g.1 1 j1))]) S.1 S.2.1 dX4_givePoints_1 rfl hl (by decide) rfl (fun ls hl => ?_)
  refine L2 _ (fun M37 v38 H locs hR hS ls hl hF => ?_) _ _ _ _ _ hR hS _ (lv_sub hl [1, 2, 0] rfl) hF
  exact z_vret S hr hlk hR hS hF dX4_givePoints_108
theorem hX4_cutStrings : yX4_cutStrings.cls = RX4 ∧ yX4_cutStrings.cls ≠ "java/lang/invoke/MethodHandle" ∧ yX4_cutStrings.cls ≠ "java/lang/invoke/VarHandle" ∧ (parseMethodDescriptor yX4_cutStrings.desc).map (fun d => d.parameters.length) = some 1 := by decide +kernel
theorem oX4_cutStrings : Cond.instanceMethod yX4_cutStrings ∈ zT ∧ Cond.selects RX4 yX4_cutStrings yX4_cutStrings ∈ zT ∧ Cond.initialized RX4 ∈ zT ∧ Cond.code yX4_cutStrings cX4_cutStrings 3 none ∈ zT := ⟨wv_X4_cutStrings, we_X4_cutStrings, wi_X4, wk_X4_cutStrings⟩
set_option maxRecDepth 100000 in
set_option maxHeartbeats 4000000 in
theorem kX4_cutStrings (l : Launch) {g : zGeo} {z : Nat} (hg : zAd g z) {M M' : zM} {j1 : Nat} (hj1 : j1 < 10) {r : Unit} (hF : fX4_cutStrings M j1 = some (r, M')) : Met l yX4_cutStrings [.code yX4_cutStrings cX4_cutStrings 3 none] { frames := 0, cells := 0, slots := 0, locals := 0 } (zPc g M [.ref (g.1 20 0), .ref (g.1 1 j1)]) (zQv g z M') 0 0 (zS z) := by
  refine z_enter (cc := cX4_cutStrings) (maxL := 3) (ret := none) (by decide) rfl (Nat.le_of_ble_eq_true rfl) ?_
  intro p e s m below meth c S hr hlk hK hR hS ls hl
  have S : CallFix p m c cX4_cutStrings 3 s _ zT RX4 := S
  have hl : lv_has ls 3 [(0, .ref (g.1 20 0)), (1, .ref (g.1 1 j1))] := hl
  have L2 : ∀ (k : zM → Int32 → Option (Unit × zM)) , (∀ (M : zM) (a2 : Int32) (H : Heap) (locs : List Loc), zR g M H → va_S (zS z) s.heap H locs → ∀ ls : Array Slot, lv_has ls 3 [(0, .ref (g.1 20 0)), (1, .ref (g.1 1 j1)), (2, .int a2)] → k M a2 = some (r, M') → W p l e { frames := 0, cells := 0, slots := 0, locals := 0 } s m ([.ref (g.1 20 0), .ref (g.1 1 j1)] : List Value).toArray below meth c H locs 0 0 (MQ below (zQv g z M') ([.ref (g.1 20 0), .ref (g.1 1 j1)] : List Value).toArray s 0 0 (zS z)) (F0 m 43 ls [])) → ∀ (n : Nat) (M : zM) (a2 : Int32) (H : Heap) (locs : List Loc), zR g M H → va_S (zS z) s.heap H locs → ∀ ls : Array Slot, lv_has ls 3 [(0, .ref (g.1 20 0)), (1, .ref (g.1 1 j1)), (2, .int a2)] → fX4_cutStrings_L2 k j1 n M a2 = some (r, M') → W p l e { frames := 0, cells := 0, slots := 0, locals := 0 } s m ([.ref (g.1 20 0), .ref (g.1 1 j1)] : List Value).toArray below meth c H locs 0 0 (MQ below (zQv g z M') ([.ref (g.1 20 0), .ref (g.1 1 j1)] : List Value).toArray s 0 0 (zS z)) (F0 m 2 ls []) := by
    intro k  hk n
    induction n with
    | zero =>
      intro M a2 H locs hR hS ls hl hF
      cases hF
    | succ n ih =>
      intro M a2 H locs hR hS ls hl hF
      unfold fX4_cutStrings_L2 at hF
      refine lv_iload_n S.1 S.2.1 dX4_cutStrings_2 rfl (lv_at hl 2 rfl) ?_
      refine lv_bipush (v := 6) S.1 S.2.1 dX4_cutStrings_3 (by decide) ?_
      refine lv_icmp_ge (tgt := 43) S.1 S.2.1 dX4_cutStrings_5 (by decide) (fun hc21 => ?_) (fun hc21 => ?_)
      · replace hF := z_ct hF hc21
        exact hk _ _ _ _ hR hS _ (lv_sub hl [0, 1, 2] rfl) hF
      · replace hF := z_cf hF hc21
        refine lv_aload_n S.1 S.2.1 dX4_cutStrings_8 rfl (lv_at hl 0 rfl) ?_
        refine z_get (k := 20) (i := 0) (f := 1) (v := .int (M 20 0 1)) S hK hR (by decide) rfl rfl (by decide) wf_X4_32 rfl dX4_cutStrings_9 ?_
        refine lv_iload_n S.1 S.2.1 dX4_cutStrings_12 rfl (lv_at hl 2 rfl) ?_
        refine lv_ishr S.1 S.2.1 dX4_cutStrings_13 ?_
        refine lv_iconst (v := 1) S.1 S.2.1 dX4_cutStrings_14 (by decide) ?_
        refine lv_iand S.1 S.2.1 dX4_cutStrings_15 ?_
        refine lv_iconst (v := 1) S.1 S.2.1 dX4_cutStrings_16 (by decide) ?_
        refine lv_icmp_ne (tgt := 37) S.1 S.2.1 dX4_cutStrings_17 (by decide) (fun hc22 => ?_) (fun hc22 => ?_)
        · replace hF := z_cf hF hc22
          obtain ⟨v23, ev23, hF⟩ := zL_out hF
          refine lv_iinc (v := v23) (lv' := [(2, .int v23), (0, .ref (g.1 20 0)), (1, .ref (g.1 1 j1))]) S.1 S.2.1 dX4_cutStrings_37 hl (k := 2) rfl (by rw [← ev23]; rfl) (by decide) rfl (fun ls hl => ?_)
          refine lv_goto (tgt := 2) S.1 S.2.1 dX4_cutStrings_40 (by decide) ?_
          exact ih _ _ _ _ hR hS _ (lv_sub hl [1, 2, 0] rfl) hF
        · replace hF := z_ct hF hc22
          refine lv_aload_n S.1 S.2.1 dX4_cutStrings_20 rfl (lv_at hl 1 rfl) ?_
          refine z_get (k := 1) (i := j1) (f := 12) (v := .ref (g.1 10 j1)) S hK hR hj1 rfl rfl (by decide) wf_X4_86 rfl dX4_cutStrings_21 ?_
          refine lv_iload_n S.1 S.2.1 dX4_cutStrings_24 rfl (lv_at hl 2 rfl) ?_
          refine lv_iconst (v := 1) S.1 S.2.1 dX4_cutStrings_25 (by decide) ?_
          refine z_iast (k := 10) (i := j1) (n := 6) S hg hK hR hS hF hj1 rfl dX4_cutStrings_26 (fun H locs M24 hR hS hF => ?_)
          refine lv_aload_n S.1 S.2.1 dX4_cutStrings_27 rfl (lv_at hl 1 rfl) ?_
          refine lv_dup S.1 S.2.1 dX4_cutStrings_28 rfl ?_
          refine z_get (k := 1) (i := j1) (f := 3) (v := .int (M24 1 j1 3)) S hK hR hj1 rfl rfl (by decide) wf_X4_89 rfl dX4_cutStrings_29 ?_
          refine lv_iconst (v := 1) S.1 S.2.1 dX4_cutStrings_32 (by decide) ?_
          refine lv_iadd S.1 S.2.1 dX4_cutStrings_33 ?_
          refine z_put (k := 1) (i := j1) (f := 3) (ty := .int) S hg hK hR hS hF hj1 rfl rfl rfl (by decide) wf_X4_89 rfl (by decide +kernel) rfl rfl (Nat.le_of_ble_eq_true rfl) dX4_cutStrings_34 (fun H locs M25 hR hS hF => ?_)
          obtain ⟨v26, ev26, hF⟩ := zL_out hF
          refine lv_iinc (v := v26) (lv' := [(2, .int v26), (0, .ref (g.1 20 0)), (1, .ref (g.1 1 j1))]) S.1 S.2.1 dX4_cutStrings_37 hl (k := 2) rfl (by rw [← ev26]; rfl) (by decide) rfl (fun ls hl => ?_)
          refine lv_goto (tgt := 2) S.1 S.2.1 dX4_cutStrings_40 (by decide) ?_
          exact ih _ _ _ _ hR hS _ (lv_sub hl [1, 2, 0] rfl) hF
  unfold fX4_cutStrings at hF
  refine lv_iconst (v := 0) S.1 S.2.1 dX4_cutStrings_0 (by decide) ?_
  refine lv_istore_n (lv' := [(2, .int 0), (0, .ref (g.1 20 0)), (1, .ref (g.1 1 j1))]) S.1 S.2.1 dX4_cutStrings_1 rfl hl (by decide) rfl (fun ls hl => ?_)
  refine L2 _ (fun M27 v28 H locs hR hS ls hl hF => ?_) _ _ _ _ _ hR hS _ (lv_sub hl [1, 2, 0] rfl) hF
  exact z_vret S hr hlk hR hS hF dX4_cutStrings_43
theorem hX4_happenIn : yX4_happenIn.cls = RX4 ∧ yX4_happenIn.cls ≠ "java/lang/invoke/MethodHandle" ∧ yX4_happenIn.cls ≠ "java/lang/invoke/VarHandle" ∧ (parseMethodDescriptor yX4_happenIn.desc).map (fun d => d.parameters.length) = some 1 := by decide +kernel
theorem oX4_happenIn : Cond.instanceMethod yX4_happenIn ∈ zT ∧ Cond.selects RX4 yX4_happenIn yX4_happenIn ∈ zT ∧ Cond.initialized RX4 ∈ zT ∧ Cond.code yX4_happenIn cX4_happenIn 3 none ∈ zT := ⟨wv_X4_happenIn, we_X4_happenIn, wi_X4, wk_X4_happenIn⟩
set_option maxRecDepth 100000 in
set_option maxHeartbeats 4000000 in
theorem kX4_happenIn (l : Launch) {g : zGeo} {z : Nat} (hg : zAd g z) {M M' : zM} {j1 : Nat} (hj1 : j1 < 10) {r : Unit} (hF : fX4_happenIn M j1 = some (r, M')) : Met l yX4_happenIn [.code yX4_happenIn cX4_happenIn 3 none] { frames := 5, cells := 0, slots := 0, locals := 112 } (zPc g M [.ref (g.1 20 0), .ref (g.1 1 j1)]) (zQv g z M') 0 0 (zS z) := by
  refine z_enter (cc := cX4_happenIn) (maxL := 3) (ret := none) (by decide) rfl (Nat.le_of_ble_eq_true rfl) ?_
  intro p e s m below meth c S hr hlk hK hR hS ls hl
  have S : CallFix p m c cX4_happenIn 3 s _ zT RX4 := S
  have hl : lv_has ls 3 [(0, .ref (g.1 20 0)), (1, .ref (g.1 1 j1))] := hl
  have L2 : ∀ (k : zM → Int32 → Option (Unit × zM)) , (∀ (M : zM) (a2 : Int32) (H : Heap) (locs : List Loc), zR g M H → va_S (zS z) s.heap H locs → ∀ ls : Array Slot, lv_has ls 3 [(0, .ref (g.1 20 0)), (1, .ref (g.1 1 j1)), (2, .int a2)] → k M a2 = some (r, M') → W p l e { frames := 5, cells := 0, slots := 0, locals := 112 } s m ([.ref (g.1 20 0), .ref (g.1 1 j1)] : List Value).toArray below meth c H locs 0 0 (MQ below (zQv g z M') ([.ref (g.1 20 0), .ref (g.1 1 j1)] : List Value).toArray s 0 0 (zS z)) (F0 m 27 ls [])) → ∀ (n : Nat) (M : zM) (a2 : Int32) (H : Heap) (locs : List Loc), zR g M H → va_S (zS z) s.heap H locs → ∀ ls : Array Slot, lv_has ls 3 [(0, .ref (g.1 20 0)), (1, .ref (g.1 1 j1)), (2, .int a2)] → fX4_happenIn_L2 k j1 n M a2 = some (r, M') → W p l e { frames := 5, cells := 0, slots := 0, locals := 112 } s m ([.ref (g.1 20 0), .ref (g.1 1 j1)] : List Value).toArray below meth c H locs 0 0 (MQ below (zQv g z M') ([.ref (g.1 20 0), .ref (g.1 1 j1)] : List Value).toArray s 0 0 (zS z)) (F0 m 2 ls []) := by
    intro k  hk n
    induction n with
    | zero =>
      intro M a2 H locs hR hS ls hl hF
      cases hF
    | succ n ih =>
      intro M a2 H locs hR hS ls hl hF
      unfold fX4_happenIn_L2 at hF
      refine lv_iload_n S.1 S.2.1 dX4_happenIn_2 rfl (lv_at hl 2 rfl) ?_
      refine lv_bipush (v := 6) S.1 S.2.1 dX4_happenIn_3 (by decide) ?_
      refine lv_icmp_ge (tgt := 27) S.1 S.2.1 dX4_happenIn_5 (by decide) (fun hc21 => ?_) (fun hc21 => ?_)
      · replace hF := z_ct hF hc21
        exact hk _ _ _ _ hR hS _ (lv_sub hl [0, 1, 2] rfl) hF
      · replace hF := z_cf hF hc21
        refine lv_aload_n S.1 S.2.1 dX4_happenIn_8 rfl (lv_at hl 1 rfl) ?_
        refine lv_iload_n S.1 S.2.1 dX4_happenIn_9 rfl (lv_at hl 2 rfl) ?_
        refine z_goi hS hF (fun _ _ ho => va_runV (C := RX2) (n := 1) (As := [.int a2]) (rest := []) S (kX2_isFlying l hg hj1 ho) (cwV 1 S.2.2.2.2 (zgV wm_X4_18 oX2_isFlying) rfl rfl rfl hX2_isFlying ⟨Nat.le_of_ble_eq_true rfl, Nat.le_of_ble_eq_true rfl⟩) ⟨zPc_blind, z_recv hK hR hj1 rfl rfl, z_pre hK hR⟩ rfl rfl hl.1 rfl (lv_room (Nat.le_of_ble_eq_true rfl)) dX4_happenIn_10 ⟨Nat.zero_le _, Nat.zero_le _⟩) (fun r23 M22 H locs hR hS hF => ?_)
        refine lv_if_eq (tgt := 21) S.1 S.2.1 dX4_happenIn_13 (by decide) (fun hc24 => ?_) (fun hc24 => ?_)
        · replace hF := z_ct hF hc24
          obtain ⟨v25, ev25, hF⟩ := zL_out hF
          refine lv_iinc (v := v25) (lv' := [(2, .int v25), (0, .ref (g.1 20 0)), (1, .ref (g.1 1 j1))]) S.1 S.2.1 dX4_happenIn_21 hl (k := 2) rfl (by rw [← ev25]; rfl) (by decide) rfl (fun ls hl => ?_)
          refine lv_goto (tgt := 2) S.1 S.2.1 dX4_happenIn_24 (by decide) ?_
          exact ih _ _ _ _ hR hS _ (lv_sub hl [1, 2, 0] rfl) hF
        · replace hF := z_cf hF hc24
          refine lv_aload_n S.1 S.2.1 dX4_happenIn_16 rfl (lv_at hl 1 rfl) ?_
          refine lv_iload_n S.1 S.2.1 dX4_happenIn_17 rfl (lv_at hl 2 rfl) ?_
          refine z_gov hS hF (fun _ _ ho => va_runV (C := RX2) (n := 1) (As := [.int a2]) (rest := []) S (kX2_move l hg hj1 ho) (cwV 1 S.2.2.2.2 (zgV wm_X4_24 oX2_move) rfl rfl rfl hX2_move ⟨Nat.le_of_ble_eq_true rfl, Nat.le_of_ble_eq_true rfl⟩) ⟨zPc_blind, z_recv hK hR hj1 rfl rfl, z_pre hK hR⟩ rfl rfl hl.1 rfl (lv_room (Nat.le_of_ble_eq_true rfl)) dX4_happenIn_18 ⟨Nat.zero_le _, Nat.zero_le _⟩) (fun M26 H locs hR hS hF => ?_)
          obtain ⟨v27, ev27, hF⟩ := zL_out hF
          refine lv_iinc (v := v27) (lv' := [(2, .int v27), (0, .ref (g.1 20 0)), (1, .ref (g.1 1 j1))]) S.1 S.2.1 dX4_happenIn_21 hl (k := 2) rfl (by rw [← ev27]; rfl) (by decide) rfl (fun ls hl => ?_)
          refine lv_goto (tgt := 2) S.1 S.2.1 dX4_happenIn_24 (by decide) ?_
          exact ih _ _ _ _ hR hS _ (lv_sub hl [1, 2, 0] rfl) hF
  unfold fX4_happenIn at hF
  refine lv_iconst (v := 0) S.1 S.2.1 dX4_happenIn_0 (by decide) ?_
  refine lv_istore_n (lv' := [(2, .int 0), (0, .ref (g.1 20 0)), (1, .ref (g.1 1 j1))]) S.1 S.2.1 dX4_happenIn_1 rfl hl (by decide) rfl (fun ls hl => ?_)
  refine L2 _ (fun M28 v29 H locs hR hS ls hl hF => ?_) _ _ _ _ _ hR hS _ (lv_sub hl [1, 2, 0] rfl) hF
  refine lv_aload_n S.1 S.2.1 dX4_happenIn_27 rfl (lv_at hl 1 rfl) ?_
  refine lv_dup S.1 S.2.1 dX4_happenIn_28 rfl ?_
  refine z_get (k := 1) (i := j1) (f := 1) (v := .int (M28 1 j1 1)) S hK hR hj1 rfl rfl (by decide) wf_X4_28 rfl dX4_happenIn_29 ?_
  refine lv_iconst (v := 1) S.1 S.2.1 dX4_happenIn_32 (by decide) ?_
  refine lv_iadd S.1 S.2.1 dX4_happenIn_33 ?_
  refine z_put (k := 1) (i := j1) (f := 1) (ty := .int) S hg hK hR hS hF hj1 rfl rfl rfl (by decide) wf_X4_28 rfl (by decide +kernel) rfl rfl (Nat.le_of_ble_eq_true rfl) dX4_happenIn_34 (fun H locs M30 hR hS hF => ?_)
  refine lv_aload_n S.1 S.2.1 dX4_happenIn_37 rfl (lv_at hl 0 rfl) ?_
  refine lv_iconst (v := 0) S.1 S.2.1 dX4_happenIn_38 (by decide) ?_
  refine z_put (k := 20) (i := 0) (f := 1) (ty := .int) S hg hK hR hS hF (by decide) rfl rfl rfl (by decide) wf_X4_32 rfl (by decide +kernel) rfl rfl (Nat.le_of_ble_eq_true rfl) dX4_happenIn_39 (fun H locs M31 hR hS hF => ?_)
  refine lv_aload_n S.1 S.2.1 dX4_happenIn_42 rfl (lv_at hl 0 rfl) ?_
  refine lv_iconst (v := 0) S.1 S.2.1 dX4_happenIn_43 (by decide) ?_
  refine z_put (k := 20) (i := 0) (f := 2) (ty := .int) S hg hK hR hS hF (by decide) rfl rfl rfl (by decide) wf_X4_35 rfl (by decide +kernel) rfl rfl (Nat.le_of_ble_eq_true rfl) dX4_happenIn_44 (fun H locs M32 hR hS hF => ?_)
  refine lv_aload_n S.1 S.2.1 dX4_happenIn_47 rfl (lv_at hl 0 rfl) ?_
  refine z_get (k := 20) (i := 0) (f := 0) (v := .ref (g.1 15 1)) S hK hR (by decide) rfl rfl (by decide) wf_X4_12 rfl dX4_happenIn_48 ?_
  refine lv_aload_n S.1 S.2.1 dX4_happenIn_51 rfl (lv_at hl 1 rfl) ?_
  refine z_gov hS hF (fun _ _ ho => va_runV (C := RX5) (n := 1) (As := [.ref (g.1 1 j1)]) (rest := []) S (kX5_measure l hg (by decide) hj1 ho) (cwV 1 S.2.2.2.2 (zgV wm_X4_38 oX5_measure) rfl rfl rfl hX5_measure ⟨Nat.le_of_ble_eq_true rfl, Nat.le_of_ble_eq_true rfl⟩) ⟨zPc_blind, z_recv hK hR (by decide) rfl rfl, z_pre hK hR⟩ rfl rfl hl.1 rfl (lv_room (Nat.le_of_ble_eq_true rfl)) dX4_happenIn_52 ⟨Nat.zero_le _, Nat.zero_le _⟩) (fun M33 H locs hR hS hF => ?_)
  refine lv_aload_n S.1 S.2.1 dX4_happenIn_55 rfl (lv_at hl 0 rfl) ?_
  refine lv_aload_n S.1 S.2.1 dX4_happenIn_56 rfl (lv_at hl 1 rfl) ?_
  refine z_gov hS hF (fun _ _ ho => va_runV (C := RX4) (n := 1) (As := [.ref (g.1 1 j1)]) (rest := []) S (kX4_wearStrings l hg hj1 ho) (cwV 1 S.2.2.2.2 (zgV wm_X4_42 oX4_wearStrings) rfl rfl rfl hX4_wearStrings ⟨Nat.le_of_ble_eq_true rfl, Nat.le_of_ble_eq_true rfl⟩) ⟨zPc_blind, z_recv hK hR (by decide) rfl rfl, z_pre hK hR⟩ rfl rfl hl.1 rfl (lv_room (Nat.le_of_ble_eq_true rfl)) dX4_happenIn_57 ⟨Nat.zero_le _, Nat.zero_le _⟩) (fun M34 H locs hR hS hF => ?_)
  refine lv_aload_n S.1 S.2.1 dX4_happenIn_60 rfl (lv_at hl 0 rfl) ?_
  refine lv_aload_n S.1 S.2.1 dX4_happenIn_61 rfl (lv_at hl 1 rfl) ?_
  refine z_gov hS hF (fun _ _ ho => va_runV (C := RX4) (n := 1) (As := [.ref (g.1 1 j1)]) (rest := []) S (kX4_givePoints l hg hj1 ho) (cwV 1 S.2.2.2.2 (zgV wm_X4_45 oX4_givePoints) rfl rfl rfl hX4_givePoints ⟨Nat.le_of_ble_eq_true rfl, Nat.le_of_ble_eq_true rfl⟩) ⟨zPc_blind, z_recv hK hR (by decide) rfl rfl, z_pre hK hR⟩ rfl rfl hl.1 rfl (lv_room (Nat.le_of_ble_eq_true rfl)) dX4_happenIn_62 ⟨Nat.zero_le _, Nat.zero_le _⟩) (fun M35 H locs hR hS hF => ?_)
  refine lv_aload_n S.1 S.2.1 dX4_happenIn_65 rfl (lv_at hl 0 rfl) ?_
  refine z_get (k := 20) (i := 0) (f := 1) (v := .int (M35 20 0 1)) S hK hR (by decide) rfl rfl (by decide) wf_X4_32 rfl dX4_happenIn_66 ?_
  refine lv_if_eq (tgt := 77) S.1 S.2.1 dX4_happenIn_69 (by decide) (fun hc36 => ?_) (fun hc36 => ?_)
  · replace hF := z_ct hF hc36
    exact z_vret S hr hlk hR hS hF dX4_happenIn_77
  · replace hF := z_cf hF hc36
    refine lv_aload_n S.1 S.2.1 dX4_happenIn_72 rfl (lv_at hl 0 rfl) ?_
    refine lv_aload_n S.1 S.2.1 dX4_happenIn_73 rfl (lv_at hl 1 rfl) ?_
    refine z_gov hS hF (fun _ _ ho => va_runV (C := RX4) (n := 1) (As := [.ref (g.1 1 j1)]) (rest := []) S (kX4_cutStrings l hg hj1 ho) (cwV 1 S.2.2.2.2 (zgV wm_X4_48 oX4_cutStrings) rfl rfl rfl hX4_cutStrings ⟨Nat.le_of_ble_eq_true rfl, Nat.le_of_ble_eq_true rfl⟩) ⟨zPc_blind, z_recv hK hR (by decide) rfl rfl, z_pre hK hR⟩ rfl rfl hl.1 rfl (lv_room (Nat.le_of_ble_eq_true rfl)) dX4_happenIn_74 ⟨Nat.zero_le _, Nat.zero_le _⟩) (fun M37 H locs hR hS hF => ?_)
    exact z_vret S hr hlk hR hS hF dX4_happenIn_77
theorem hX0_stateAt : yX0_stateAt.cls = RX0 ∧ yX0_stateAt.cls ≠ "java/lang/invoke/MethodHandle" ∧ yX0_stateAt.cls ≠ "java/lang/invoke/VarHandle" ∧ (parseMethodDescriptor yX0_stateAt.desc).map (fun d => d.parameters.length) = some 1 := by decide +kernel
theorem oX0_stateAt : Cond.instanceMethod yX0_stateAt ∈ zT ∧ Cond.selects RX0 yX0_stateAt yX0_stateAt ∈ zT ∧ Cond.initialized RX0 ∈ zT ∧ Cond.code yX0_stateAt cX0_stateAt 2 (some (.object "KiteStrings$Sky")) ∈ zT := ⟨wv_X0_stateAt, we_X0_stateAt, wi_X0, wk_X0_stateAt⟩
set_option maxRecDepth 100000 in
set_option maxHeartbeats 4000000 in
theorem kX0_stateAt (l : Launch) {g : zGeo} {z : Nat} (hg : zAd g z) {M M' : zM} {v1 : Int32} {r : Nat} (hF : fX0_stateAt M v1 = some (r, M')) : Met l yX0_stateAt [.code yX0_stateAt cX0_stateAt 2 (some (.object "KiteStrings$Sky"))] { frames := 0, cells := 0, slots := 0, locals := 0 } (zPc g M [.ref (g.1 21 0), .int v1]) (zQr g z 1 r M') 0 0 (zS z) := by
  refine z_enter (cc := cX0_stateAt) (maxL := 2) (ret := (some (.object "KiteStrings$Sky"))) (by decide) rfl (Nat.le_of_ble_eq_true rfl) ?_
  intro p e s m below meth c S hr hlk hK hR hS ls hl
  have S : CallFix p m c cX0_stateAt 2 s _ zT RX0 := S
  have hl : lv_has ls 2 [(0, .ref (g.1 21 0)), (1, .int v1)] := hl
  unfold fX0_stateAt at hF
  refine lv_iload_n S.1 S.2.1 dX0_stateAt_0 rfl (lv_at hl 1 rfl) ?_
  refine lv_if_lt (tgt := 22) S.1 S.2.1 dX0_stateAt_1 (by decide) (fun hc21 => ?_) (fun hc21 => ?_)
  · replace hF := z_ct hF hc21
    refine lv_null S.1 S.2.1 dX0_stateAt_22 ?_
    cases hF
  · replace hF := z_cf hF hc21
    refine lv_iload_n S.1 S.2.1 dX0_stateAt_4 rfl (lv_at hl 1 rfl) ?_
    refine lv_aload_n S.1 S.2.1 dX0_stateAt_5 rfl (lv_at hl 0 rfl) ?_
    refine z_get (k := 21) (i := 0) (f := 0) (v := .ref (g.1 22 0)) S hK hR (by decide) rfl rfl (by decide) wf_X0_11 rfl dX0_stateAt_6 ?_
    refine z_alenq S hK hR dX0_stateAt_9 ?_
    refine lv_icmp_ge (tgt := 22) S.1 S.2.1 dX0_stateAt_10 (by decide) (fun hc22 => ?_) (fun hc22 => ?_)
    · replace hF := z_ct hF hc22
      refine lv_null S.1 S.2.1 dX0_stateAt_22 ?_
      cases hF
    · replace hF := z_cf hF hc22
      refine lv_aload_n S.1 S.2.1 dX0_stateAt_13 rfl (lv_at hl 0 rfl) ?_
      refine z_get (k := 21) (i := 0) (f := 0) (v := .ref (g.1 22 0)) S hK hR (by decide) rfl rfl (by decide) wf_X0_11 rfl dX0_stateAt_14 ?_
      refine lv_iload_n S.1 S.2.1 dX0_stateAt_17 rfl (lv_at hl 1 rfl) ?_
      refine z_aald S hK hR hF dX0_stateAt_18 (fun hb23 hF => ?_)
      refine lv_goto (tgt := 23) S.1 S.2.1 dX0_stateAt_19 (by decide) ?_
      exact z_aret (k := 1) S hr hlk hR hS hF hb23 dX0_stateAt_23
theorem hX0_record : yX0_record.cls = RX0 ∧ yX0_record.cls ≠ "java/lang/invoke/MethodHandle" ∧ yX0_record.cls ≠ "java/lang/invoke/VarHandle" ∧ (parseMethodDescriptor yX0_record.desc).map (fun d => d.parameters.length) = some 1 := by decide +kernel
theorem oX0_record : Cond.instanceMethod yX0_record ∈ zT ∧ Cond.selects RX0 yX0_record yX0_record ∈ zT ∧ Cond.initialized RX0 ∈ zT ∧ Cond.code yX0_record cX0_record 3 none ∈ zT := ⟨wv_X0_record, we_X0_record, wi_X0, wk_X0_record⟩
set_option maxRecDepth 100000 in
set_option maxHeartbeats 4000000 in
theorem kX0_record (l : Launch) {g : zGeo} {z : Nat} (hg : zAd g z) {M M' : zM} {j1 : Nat} (hj1 : j1 < 10) {r : Unit} (hF : fX0_record M j1 = some (r, M')) : Met l yX0_record [.code yX0_record cX0_record 3 none] { frames := 4, cells := 0, slots := 0, locals := 102 } (zPc g M [.ref (g.1 21 0), .ref (g.1 1 j1)]) (zQv g z M') 0 0 (zS z) := by
  refine z_enter (cc := cX0_record) (maxL := 3) (ret := none) (by decide) rfl (Nat.le_of_ble_eq_true rfl) ?_
  intro p e s m below meth c S hr hlk hK hR hS ls hl
  have S : CallFix p m c cX0_record 3 s _ zT RX0 := S
  have hl : lv_has ls 3 [(0, .ref (g.1 21 0)), (1, .ref (g.1 1 j1))] := hl
  unfold fX0_record at hF
  refine lv_aload_n S.1 S.2.1 dX0_record_0 rfl (lv_at hl 0 rfl) ?_
  refine lv_aload_n S.1 S.2.1 dX0_record_1 rfl (lv_at hl 0 rfl) ?_
  refine z_get (k := 21) (i := 0) (f := 1) (v := .int (M 21 0 1)) S hK hR (by decide) rfl rfl (by decide) wf_X0_18 rfl dX0_record_2 ?_
  refine z_gor (k := 1) hS hF (fun _ _ ho => va_runV (C := RX0) (n := 1) (As := [.int (M 21 0 1)]) (rest := []) S (kX0_stateAt l hg ho) (cwV 1 S.2.2.2.2 (zgV wm_X0_22 oX0_stateAt) rfl rfl rfl hX0_stateAt ⟨Nat.le_of_ble_eq_true rfl, Nat.le_of_ble_eq_true rfl⟩) ⟨zPc_blind, z_recv hK hR (by decide) rfl rfl, z_pre hK hR⟩ rfl rfl hl.1 rfl (lv_room (Nat.le_of_ble_eq_true rfl)) dX0_record_5 ⟨Nat.zero_le _, Nat.zero_le _⟩) (fun q22 M21 H locs hb23 hR hS hF => ?_)
  refine lv_astore_n (lv' := [(2, .ref (g.1 1 q22)), (0, .ref (g.1 21 0)), (1, .ref (g.1 1 j1))]) S.1 S.2.1 dX0_record_8 rfl hl (by decide) rfl (fun ls hl => ?_)
  refine lv_aload_n S.1 S.2.1 dX0_record_9 rfl (lv_at hl 0 rfl) ?_
  refine lv_ifnonnull (tgt := 14) S.1 S.2.1 dX0_record_10 (by decide) ?_
  refine lv_aload_n S.1 S.2.1 dX0_record_14 rfl (lv_at hl 0 rfl) ?_
  refine lv_aload_n S.1 S.2.1 dX0_record_15 rfl (lv_at hl 2 rfl) ?_
  refine z_gov hS hF (fun _ _ ho => va_runV (C := RX2) (n := 1) (As := [.ref (g.1 1 j1)]) (rest := []) S (kX2_copyFrom l hg hb23 hj1 ho) (cwV 1 S.2.2.2.2 (zgV wm_X0_26 oX2_copyFrom) rfl rfl rfl hX2_copyFrom ⟨Nat.le_of_ble_eq_true rfl, Nat.le_of_ble_eq_true rfl⟩) ⟨zPc_blind, z_recv hK hR hb23 rfl rfl, z_pre hK hR⟩ rfl rfl hl.1 rfl (lv_room (Nat.le_of_ble_eq_true rfl)) dX0_record_16 ⟨Nat.zero_le _, Nat.zero_le _⟩) (fun M24 H locs hR hS hF => ?_)
  refine lv_aload_n S.1 S.2.1 dX0_record_19 rfl (lv_at hl 1 rfl) ?_
  refine lv_aload_n S.1 S.2.1 dX0_record_20 rfl (lv_at hl 1 rfl) ?_
  refine z_get (k := 21) (i := 0) (f := 1) (v := .int (M24 21 0 1)) S hK hR (by decide) rfl rfl (by decide) wf_X0_18 rfl dX0_record_21 ?_
  refine lv_iconst (v := 1) S.1 S.2.1 dX0_record_24 (by decide) ?_
  refine lv_iadd S.1 S.2.1 dX0_record_25 ?_
  refine lv_bipush (v := 6) S.1 S.2.1 dX0_record_26 (by decide) ?_
  refine lv_icmp_ge (tgt := 40) S.1 S.2.1 dX0_record_28 (by decide) (fun hc25 => ?_) (fun hc25 => ?_)
  · replace hF := z_ct hF hc25
    refine lv_iconst (v := 0) S.1 S.2.1 dX0_record_40 (by decide) ?_
    refine z_put (k := 21) (i := 0) (f := 1) (ty := .int) S hg hK hR hS hF (by decide) rfl rfl rfl (by decide) wf_X0_18 rfl (by decide +kernel) rfl rfl (Nat.le_of_ble_eq_true rfl) dX0_record_41 (fun H locs M26 hR hS hF => ?_)
    refine lv_aload_n S.1 S.2.1 dX0_record_44 rfl (lv_at hl 1 rfl) ?_
    refine lv_aload_n S.1 S.2.1 dX0_record_45 rfl (lv_at hl 1 rfl) ?_
    refine z_get (k := 21) (i := 0) (f := 2) (v := .int (M26 21 0 2)) S hK hR (by decide) rfl rfl (by decide) wf_X0_30 rfl dX0_record_46 ?_
    refine lv_iconst (v := 1) S.1 S.2.1 dX0_record_49 (by decide) ?_
    refine lv_iadd S.1 S.2.1 dX0_record_50 ?_
    refine lv_bipush (v := 6) S.1 S.2.1 dX0_record_51 (by decide) ?_
    refine z_mmin S hl (S.2.2.2.2 _ wm_X0_33) (S.2.2.2.2 _ ws_JM_min) (S.2.2.2.2 _ wi_JM) (S.2.2.2.2 _ wk_min) (Nat.le_of_ble_eq_true rfl) (Nat.le_of_ble_eq_true rfl) (Nat.zero_le _) (Nat.zero_le _) dX0_record_53 ?_
    refine z_put (k := 21) (i := 0) (f := 2) (ty := .int) S hg hK hR hS hF (by decide) rfl rfl rfl (by decide) wf_X0_30 rfl (by decide +kernel) rfl rfl (Nat.le_of_ble_eq_true rfl) dX0_record_56 (fun H locs M27 hR hS hF => ?_)
    exact z_vret S hr hlk hR hS hF dX0_record_59
  · replace hF := z_cf hF hc25
    refine lv_aload_n S.1 S.2.1 dX0_record_31 rfl (lv_at hl 1 rfl) ?_
    refine z_get (k := 21) (i := 0) (f := 1) (v := .int (M24 21 0 1)) S hK hR (by decide) rfl rfl (by decide) wf_X0_18 rfl dX0_record_32 ?_
    refine lv_iconst (v := 1) S.1 S.2.1 dX0_record_35 (by decide) ?_
    refine lv_iadd S.1 S.2.1 dX0_record_36 ?_
    refine lv_goto (tgt := 41) S.1 S.2.1 dX0_record_37 (by decide) ?_
    refine z_put (k := 21) (i := 0) (f := 1) (ty := .int) S hg hK hR hS hF (by decide) rfl rfl rfl (by decide) wf_X0_18 rfl (by decide +kernel) rfl rfl (Nat.le_of_ble_eq_true rfl) dX0_record_41 (fun H locs M28 hR hS hF => ?_)
    refine lv_aload_n S.1 S.2.1 dX0_record_44 rfl (lv_at hl 1 rfl) ?_
    refine lv_aload_n S.1 S.2.1 dX0_record_45 rfl (lv_at hl 1 rfl) ?_
    refine z_get (k := 21) (i := 0) (f := 2) (v := .int (M28 21 0 2)) S hK hR (by decide) rfl rfl (by decide) wf_X0_30 rfl dX0_record_46 ?_
    refine lv_iconst (v := 1) S.1 S.2.1 dX0_record_49 (by decide) ?_
    refine lv_iadd S.1 S.2.1 dX0_record_50 ?_
    refine lv_bipush (v := 6) S.1 S.2.1 dX0_record_51 (by decide) ?_
    refine z_mmin S hl (S.2.2.2.2 _ wm_X0_33) (S.2.2.2.2 _ ws_JM_min) (S.2.2.2.2 _ wi_JM) (S.2.2.2.2 _ wk_min) (Nat.le_of_ble_eq_true rfl) (Nat.le_of_ble_eq_true rfl) (Nat.zero_le _) (Nat.zero_le _) dX0_record_53 ?_
    refine z_put (k := 21) (i := 0) (f := 2) (ty := .int) S hg hK hR hS hF (by decide) rfl rfl rfl (by decide) wf_X0_30 rfl (by decide +kernel) rfl rfl (Nat.le_of_ble_eq_true rfl) dX0_record_56 (fun H locs M29 hR hS hF => ?_)
    exact z_vret S hr hlk hR hS hF dX0_record_59
