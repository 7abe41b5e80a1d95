theorem z_kind {k : Nat} (h2 : 2 ≤ k) (h14 : k ≤ 14) : zcnt k = 10 ∧ ∃ n, zarr k = some (0, n) ∧ n < 2 ^ 31 := by
  have h : k = 2 ∨ k = 3 ∨ k = 4 ∨ k = 5 ∨ k = 6 ∨ k = 7 ∨ k = 8 ∨ k = 9 ∨ k = 10 ∨ k = 11 ∨ k = 12 ∨ k = 13 ∨ k = 14 := by omega
  rcases h with rfl | rfl | rfl | rfl | rfl | rfl | rfl | rfl | rfl | rfl | rfl | rfl | rfl <;> exact ⟨rfl, _, rfl, by decide⟩
theorem zmin_self (x : Int32) : zmin x x = x := by unfold zmin; split <;> rfl
theorem hX2_copyRow : yX2_copyRow.cls = RX2 ∧ yX2_copyRow.cls ≠ "java/lang/invoke/MethodHandle" ∧ yX2_copyRow.cls ≠ "java/lang/invoke/VarHandle" ∧ (parseMethodDescriptor yX2_copyRow.desc).map (fun d => d.parameters.length) = some 2 := by decide +kernel
theorem oX2_copyRow : Cond.static yX2_copyRow ∈ zT ∧ Cond.initialized RX2 ∈ zT ∧ Cond.code yX2_copyRow cX2_copyRow 2 none ∈ zT := ⟨ws_X2_copyRow, wi_X2, wk_X2_copyRow⟩
set_option maxRecDepth 100000 in
set_option maxHeartbeats 4000000 in
theorem kX2_copyRow (l : Launch) {g : zGeo} {z : Nat} (hg : zAd g z) {M M' : zM} {k : Nat} (h2 : 2 ≤ k) (h14 : k ≤ 14) {i1 i2 : Nat} (h1 : i1 < 10) (h3 : i2 < 10) {r : Unit} (hF : fX2_copyRow M k i1 i2 = some (r, M')) : Met l yX2_copyRow [.code yX2_copyRow cX2_copyRow 2 none] { frames := 2, cells := 0, slots := 0, locals := 60 } (zPc g M [.ref (g.1 k i1), .ref (g.1 k i2)]) (zQv g z M') 0 0 (zS z) := by
  obtain ⟨hcnt, n, ha, hn⟩ := z_kind h2 h14
  have c1 : i1 < zcnt k := by rw [hcnt]; exact h1
  have c2 : i2 < zcnt k := by rw [hcnt]; exact h3
  refine z_enter (cc := cX2_copyRow) (maxL := 2) (ret := none) (by decide) rfl (Nat.le_of_ble_eq_true rfl) ?_
  intro p e s m below meth c S hr hlk hK hR hS ls hl
  have S : CallFix p m c cX2_copyRow 2 s _ zT RX2 := S
  have hl : lv_has ls 2 [(0, .ref (g.1 k i1)), (1, .ref (g.1 k i2))] := hl
  unfold fX2_copyRow at hF
  split at hF
  · cases hF
  refine lv_aload_n S.1 S.2.1 dX2_copyRow_0 rfl (lv_at hl 0 rfl) ?_
  refine lv_iconst (v := 0) S.1 S.2.1 dX2_copyRow_1 (by decide) ?_
  refine lv_aload_n S.1 S.2.1 dX2_copyRow_2 rfl (lv_at hl 1 rfl) ?_
  refine lv_iconst (v := 0) S.1 S.2.1 dX2_copyRow_3 (by decide) ?_
  refine lv_aload_n S.1 S.2.1 dX2_copyRow_4 rfl (lv_at hl 0 rfl) ?_
  refine z_alen (v := nI n) S hK hR c1 ha (by decide) rfl dX2_copyRow_5 ?_
  refine lv_aload_n S.1 S.2.1 dX2_copyRow_6 rfl (lv_at hl 1 rfl) ?_
  refine z_alen (v := nI n) S hK hR c2 ha (by decide) rfl dX2_copyRow_7 ?_
  refine z_mmin S hl (S.2.2.2.2 _ wm_X2_68) (S.2.2.2.2 _ ws_JM_min) (S.2.2.2.2 _ wi_JM) (S.2.2.2.2 _ wk_min) (Nat.le_of_ble_eq_true rfl) (Nat.le_of_ble_eq_true rfl) (Nat.zero_le _) (Nat.zero_le _) dX2_copyRow_8 ?_
  rw [zmin_self]
  refine z_acopy S hg hK hR hS hl wm_X2_74 wx_JS_arraycopy ws_JS_arraycopy wi_JS ha hn c1 c2 (Nat.le_of_ble_eq_true rfl) (Nat.le_of_ble_eq_true rfl) dX2_copyRow_11 (fun H locs hR hS => ?_)
  exact z_vret S hr hlk hR hS hF dX2_copyRow_14

theorem hX2_copyFrom : yX2_copyFrom.cls = RX2 ∧ yX2_copyFrom.cls ≠ "java/lang/invoke/MethodHandle" ∧ yX2_copyFrom.cls ≠ "java/lang/invoke/VarHandle" ∧ (parseMethodDescriptor yX2_copyFrom.desc).map (fun d => d.parameters.length) = some 1 := by decide +kernel
theorem oX2_copyFrom : Cond.instanceMethod yX2_copyFrom ∈ zT ∧ Cond.selects RX2 yX2_copyFrom yX2_copyFrom ∈ zT ∧ Cond.initialized RX2 ∈ zT ∧ Cond.code yX2_copyFrom cX2_copyFrom 2 none ∈ zT := ⟨wv_X2_copyFrom, we_X2_copyFrom, wi_X2, wk_X2_copyFrom⟩
set_option maxRecDepth 100000 in
set_option maxHeartbeats 4000000 in
theorem kX2_copyFrom (l : Launch) {g : zGeo} {z : Nat} (hg : zAd g z) {M M' : zM} {j : Nat} (hj : j < 10) {j1 : Nat} (hj1 : j1 < 10) {r : Unit} (hF : fX2_copyFrom M j j1 = some (r, M')) : Met l yX2_copyFrom [.code yX2_copyFrom cX2_copyFrom 2 none] { frames := 3, cells := 0, slots := 0, locals := 81 } (zPc g M [.ref (g.1 1 j), .ref (g.1 1 j1)]) (zQv g z M') 0 0 (zS z) := by
  refine z_enter (cc := cX2_copyFrom) (maxL := 2) (ret := none) (by decide) rfl (Nat.le_of_ble_eq_true rfl) ?_
  intro p e s m below meth c S hr hlk hK hR hS ls hl
  have S : CallFix p m c cX2_copyFrom 2 s _ zT RX2 := S
  have hl : lv_has ls 2 [(0, .ref (g.1 1 j)), (1, .ref (g.1 1 j1))] := hl
  unfold fX2_copyFrom at hF
  refine lv_aload_n S.1 S.2.1 dX2_copyFrom_0 rfl (lv_at hl 0 rfl) ?_
  refine lv_aload_n S.1 S.2.1 dX2_copyFrom_1 rfl (lv_at hl 1 rfl) ?_
  refine z_get (k := 1) (i := j1) (f := 0) (v := .int (M 1 j1 0)) S hK hR hj1 rfl rfl (by decide) wf_X2_51 rfl dX2_copyFrom_2 ?_
  refine z_put (k := 1) (i := j) (f := 0) (ty := .int) S hg hK hR hS hF hj rfl rfl rfl (by decide) wf_X2_51 rfl (by decide +kernel) rfl rfl (Nat.le_of_ble_eq_true rfl) dX2_copyFrom_5 (fun H locs M21 hR hS hF => ?_)
  refine lv_aload_n S.1 S.2.1 dX2_copyFrom_8 rfl (lv_at hl 0 rfl) ?_
  refine lv_aload_n S.1 S.2.1 dX2_copyFrom_9 rfl (lv_at hl 1 rfl) ?_
  refine z_get (k := 1) (i := j1) (f := 1) (v := .int (M21 1 j1 1)) S hK hR hj1 rfl rfl (by decide) wf_X2_55 rfl dX2_copyFrom_10 ?_
  refine z_put (k := 1) (i := j) (f := 1) (ty := .int) S hg hK hR hS hF hj rfl rfl rfl (by decide) wf_X2_55 rfl (by decide +kernel) rfl rfl (Nat.le_of_ble_eq_true rfl) dX2_copyFrom_13 (fun H locs M22 hR hS hF => ?_)
  refine lv_aload_n S.1 S.2.1 dX2_copyFrom_16 rfl (lv_at hl 0 rfl) ?_
  refine lv_aload_n S.1 S.2.1 dX2_copyFrom_17 rfl (lv_at hl 1 rfl) ?_
  refine z_get (k := 1) (i := j1) (f := 2) (v := .int (M22 1 j1 2)) S hK hR hj1 rfl rfl (by decide) wf_X2_58 rfl dX2_copyFrom_18 ?_
  refine z_put (k := 1) (i := j) (f := 2) (ty := .int) S hg hK hR hS hF hj rfl rfl rfl (by decide) wf_X2_58 rfl (by decide +kernel) rfl rfl (Nat.le_of_ble_eq_true rfl) dX2_copyFrom_21 (fun H locs M23 hR hS hF => ?_)
  refine lv_aload_n S.1 S.2.1 dX2_copyFrom_24 rfl (lv_at hl 0 rfl) ?_
  refine lv_aload_n S.1 S.2.1 dX2_copyFrom_25 rfl (lv_at hl 1 rfl) ?_
  refine z_get (k := 1) (i := j1) (f := 3) (v := .int (M23 1 j1 3)) S hK hR hj1 rfl rfl (by decide) wf_X2_61 rfl dX2_copyFrom_26 ?_
  refine z_put (k := 1) (i := j) (f := 3) (ty := .int) S hg hK hR hS hF hj rfl rfl rfl (by decide) wf_X2_61 rfl (by decide +kernel) rfl rfl (Nat.le_of_ble_eq_true rfl) dX2_copyFrom_29 (fun H locs M24 hR hS hF => ?_)
  refine lv_aload_n S.1 S.2.1 dX2_copyFrom_32 rfl (lv_at hl 1 rfl) ?_
  refine z_get (k := 1) (i := j1) (f := 4) (v := .ref (g.1 2 j1)) S hK hR hj1 rfl rfl (by decide) wf_X2_9 rfl dX2_copyFrom_33 ?_
  refine lv_aload_n S.1 S.2.1 dX2_copyFrom_36 rfl (lv_at hl 0 rfl) ?_
  refine z_get (k := 1) (i := j) (f := 4) (v := .ref (g.1 2 j)) S hK hR hj rfl rfl (by decide) wf_X2_9 rfl dX2_copyFrom_37 ?_
  refine z_gov hS hF (fun _ _ ho => va_runS (n := 2) (As := [.ref (g.1 2 j1), .ref (g.1 2 j)]) (rest := []) S (kX2_copyRow l hg (by decide) (by decide) hj1 hj ho) (va_cwS 2 S.2.2.2.2 (zgS wm_X2_64 oX2_copyRow) rfl rfl rfl hX2_copyRow.2 ⟨Nat.le_of_ble_eq_true rfl, Nat.le_of_ble_eq_true rfl⟩) ⟨zPc_blind, z_pre hK hR⟩ rfl rfl hl.1 rfl (lv_room (Nat.le_of_ble_eq_true rfl)) dX2_copyFrom_40 ⟨Nat.zero_le _, Nat.zero_le _⟩) (fun M25 H locs hR hS hF => ?_)
  refine lv_aload_n S.1 S.2.1 dX2_copyFrom_43 rfl (lv_at hl 1 rfl) ?_
  refine z_get (k := 1) (i := j1) (f := 5) (v := .ref (g.1 3 j1)) S hK hR hj1 rfl rfl (by decide) wf_X2_15 rfl dX2_copyFrom_44 ?_
  refine lv_aload_n S.1 S.2.1 dX2_copyFrom_47 rfl (lv_at hl 0 rfl) ?_
  refine z_get (k := 1) (i := j) (f := 5) (v := .ref (g.1 3 j)) S hK hR hj rfl rfl (by decide) wf_X2_15 rfl dX2_copyFrom_48 ?_
  refine z_gov hS hF (fun _ _ ho => va_runS (n := 2) (As := [.ref (g.1 3 j1), .ref (g.1 3 j)]) (rest := []) S (kX2_copyRow l hg (by decide) (by decide) hj1 hj ho) (va_cwS 2 S.2.2.2.2 (zgS wm_X2_64 oX2_copyRow) rfl rfl rfl hX2_copyRow.2 ⟨Nat.le_of_ble_eq_true rfl, Nat.le_of_ble_eq_true rfl⟩) ⟨zPc_blind, z_pre hK hR⟩ rfl rfl hl.1 rfl (lv_room (Nat.le_of_ble_eq_true rfl)) dX2_copyFrom_51 ⟨Nat.zero_le _, Nat.zero_le _⟩) (fun M26 H locs hR hS hF => ?_)
  refine lv_aload_n S.1 S.2.1 dX2_copyFrom_54 rfl (lv_at hl 1 rfl) ?_
  refine z_get (k := 1) (i := j1) (f := 6) (v := .ref (g.1 4 j1)) S hK hR hj1 rfl rfl (by decide) wf_X2_18 rfl dX2_copyFrom_55 ?_
  refine lv_aload_n S.1 S.2.1 dX2_copyFrom_58 rfl (lv_at hl 0 rfl) ?_
  refine z_get (k := 1) (i := j) (f := 6) (v := .ref (g.1 4 j)) S hK hR hj rfl rfl (by decide) wf_X2_18 rfl dX2_copyFrom_59 ?_
  refine z_gov hS hF (fun _ _ ho => va_runS (n := 2) (As := [.ref (g.1 4 j1), .ref (g.1 4 j)]) (rest := []) S (kX2_copyRow l hg (by decide) (by decide) hj1 hj ho) (va_cwS 2 S.2.2.2.2 (zgS wm_X2_64 oX2_copyRow) rfl rfl rfl hX2_copyRow.2 ⟨Nat.le_of_ble_eq_true rfl, Nat.le_of_ble_eq_true rfl⟩) ⟨zPc_blind, z_pre hK hR⟩ rfl rfl hl.1 rfl (lv_room (Nat.le_of_ble_eq_true rfl)) dX2_copyFrom_62 ⟨Nat.zero_le _, Nat.zero_le _⟩) (fun M27 H locs hR hS hF => ?_)
  refine lv_aload_n S.1 S.2.1 dX2_copyFrom_65 rfl (lv_at hl 1 rfl) ?_
  refine z_get (k := 1) (i := j1) (f := 7) (v := .ref (g.1 5 j1)) S hK hR hj1 rfl rfl (by decide) wf_X2_21 rfl dX2_copyFrom_66 ?_
  refine lv_aload_n S.1 S.2.1 dX2_copyFrom_69 rfl (lv_at hl 0 rfl) ?_
  refine z_get (k := 1) (i := j) (f := 7) (v := .ref (g.1 5 j)) S hK hR hj rfl rfl (by decide) wf_X2_21 rfl dX2_copyFrom_70 ?_
  refine z_gov hS hF (fun _ _ ho => va_runS (n := 2) (As := [.ref (g.1 5 j1), .ref (g.1 5 j)]) (rest := []) S (kX2_copyRow l hg (by decide) (by decide) hj1 hj ho) (va_cwS 2 S.2.2.2.2 (zgS wm_X2_64 oX2_copyRow) rfl rfl rfl hX2_copyRow.2 ⟨Nat.le_of_ble_eq_true rfl, Nat.le_of_ble_eq_true rfl⟩) ⟨zPc_blind, z_pre hK hR⟩ rfl rfl hl.1 rfl (lv_room (Nat.le_of_ble_eq_true rfl)) dX2_copyFrom_73 ⟨Nat.zero_le _, Nat.zero_le _⟩) (fun M28 H locs hR hS hF => ?_)
  refine lv_aload_n S.1 S.2.1 dX2_copyFrom_76 rfl (lv_at hl 1 rfl) ?_
  refine z_get (k := 1) (i := j1) (f := 8) (v := .ref (g.1 6 j1)) S hK hR hj1 rfl rfl (by decide) wf_X2_24 rfl dX2_copyFrom_77 ?_
  refine lv_aload_n S.1 S.2.1 dX2_copyFrom_80 rfl (lv_at hl 0 rfl) ?_
  refine z_get (k := 1) (i := j) (f := 8) (v := .ref (g.1 6 j)) S hK hR hj rfl rfl (by decide) wf_X2_24 rfl dX2_copyFrom_81 ?_
  refine z_gov hS hF (fun _ _ ho => va_runS (n := 2) (As := [.ref (g.1 6 j1), .ref (g.1 6 j)]) (rest := []) S (kX2_copyRow l hg (by decide) (by decide) hj1 hj ho) (va_cwS 2 S.2.2.2.2 (zgS wm_X2_64 oX2_copyRow) rfl rfl rfl hX2_copyRow.2 ⟨Nat.le_of_ble_eq_true rfl, Nat.le_of_ble_eq_true rfl⟩) ⟨zPc_blind, z_pre hK hR⟩ rfl rfl hl.1 rfl (lv_room (Nat.le_of_ble_eq_true rfl)) dX2_copyFrom_84 ⟨Nat.zero_le _, Nat.zero_le _⟩) (fun M29 H locs hR hS hF => ?_)
  refine lv_aload_n S.1 S.2.1 dX2_copyFrom_87 rfl (lv_at hl 1 rfl) ?_
  refine z_get (k := 1) (i := j1) (f := 9) (v := .ref (g.1 7 j1)) S hK hR hj1 rfl rfl (by decide) wf_X2_27 rfl dX2_copyFrom_88 ?_
  refine lv_aload_n S.1 S.2.1 dX2_copyFrom_91 rfl (lv_at hl 0 rfl) ?_
  refine z_get (k := 1) (i := j) (f := 9) (v := .ref (g.1 7 j)) S hK hR hj rfl rfl (by decide) wf_X2_27 rfl dX2_copyFrom_92 ?_
  refine z_gov hS hF (fun _ _ ho => va_runS (n := 2) (As := [.ref (g.1 7 j1), .ref (g.1 7 j)]) (rest := []) S (kX2_copyRow l hg (by decide) (by decide) hj1 hj ho) (va_cwS 2 S.2.2.2.2 (zgS wm_X2_64 oX2_copyRow) rfl rfl rfl hX2_copyRow.2 ⟨Nat.le_of_ble_eq_true rfl, Nat.le_of_ble_eq_true rfl⟩) ⟨zPc_blind, z_pre hK hR⟩ rfl rfl hl.1 rfl (lv_room (Nat.le_of_ble_eq_true rfl)) dX2_copyFrom_95 ⟨Nat.zero_le _, Nat.zero_le _⟩) (fun M30 H locs hR hS hF => ?_)
  refine lv_aload_n S.1 S.2.1 dX2_copyFrom_98 rfl (lv_at hl 1 rfl) ?_
  refine z_get (k := 1) (i := j1) (f := 10) (v := .ref (g.1 8 j1)) S hK hR hj1 rfl rfl (by decide) wf_X2_30 rfl dX2_copyFrom_99 ?_
  refine lv_aload_n S.1 S.2.1 dX2_copyFrom_102 rfl (lv_at hl 0 rfl) ?_
  refine z_get (k := 1) (i := j) (f := 10) (v := .ref (g.1 8 j)) S hK hR hj rfl rfl (by decide) wf_X2_30 rfl dX2_copyFrom_103 ?_
  refine z_gov hS hF (fun _ _ ho => va_runS (n := 2) (As := [.ref (g.1 8 j1), .ref (g.1 8 j)]) (rest := []) S (kX2_copyRow l hg (by decide) (by decide) hj1 hj ho) (va_cwS 2 S.2.2.2.2 (zgS wm_X2_64 oX2_copyRow) rfl rfl rfl hX2_copyRow.2 ⟨Nat.le_of_ble_eq_true rfl, Nat.le_of_ble_eq_true rfl⟩) ⟨zPc_blind, z_pre hK hR⟩ rfl rfl hl.1 rfl (lv_room (Nat.le_of_ble_eq_true rfl)) dX2_copyFrom_106 ⟨Nat.zero_le _, Nat.zero_le _⟩) (fun M31 H locs hR hS hF => ?_)
  refine lv_aload_n S.1 S.2.1 dX2_copyFrom_109 rfl (lv_at hl 1 rfl) ?_
  refine z_get (k := 1) (i := j1) (f := 11) (v := .ref (g.1 9 j1)) S hK hR hj1 rfl rfl (by decide) wf_X2_33 rfl dX2_copyFrom_110 ?_
  refine lv_aload_n S.1 S.2.1 dX2_copyFrom_113 rfl (lv_at hl 0 rfl) ?_
  refine z_get (k := 1) (i := j) (f := 11) (v := .ref (g.1 9 j)) S hK hR hj rfl rfl (by decide) wf_X2_33 rfl dX2_copyFrom_114 ?_
  refine z_gov hS hF (fun _ _ ho => va_runS (n := 2) (As := [.ref (g.1 9 j1), .ref (g.1 9 j)]) (rest := []) S (kX2_copyRow l hg (by decide) (by decide) hj1 hj ho) (va_cwS 2 S.2.2.2.2 (zgS wm_X2_64 oX2_copyRow) rfl rfl rfl hX2_copyRow.2 ⟨Nat.le_of_ble_eq_true rfl, Nat.le_of_ble_eq_true rfl⟩) ⟨zPc_blind, z_pre hK hR⟩ rfl rfl hl.1 rfl (lv_room (Nat.le_of_ble_eq_true rfl)) dX2_copyFrom_117 ⟨Nat.zero_le _, Nat.zero_le _⟩) (fun M32 H locs hR hS hF => ?_)
  refine lv_aload_n S.1 S.2.1 dX2_copyFrom_120 rfl (lv_at hl 1 rfl) ?_
  refine z_get (k := 1) (i := j1) (f := 12) (v := .ref (g.1 10 j1)) S hK hR hj1 rfl rfl (by decide) wf_X2_36 rfl dX2_copyFrom_121 ?_
  refine lv_aload_n S.1 S.2.1 dX2_copyFrom_124 rfl (lv_at hl 0 rfl) ?_
  refine z_get (k := 1) (i := j) (f := 12) (v := .ref (g.1 10 j)) S hK hR hj rfl rfl (by decide) wf_X2_36 rfl dX2_copyFrom_125 ?_
  refine z_gov hS hF (fun _ _ ho => va_runS (n := 2) (As := [.ref (g.1 10 j1), .ref (g.1 10 j)]) (rest := []) S (kX2_copyRow l hg (by decide) (by decide) hj1 hj ho) (va_cwS 2 S.2.2.2.2 (zgS wm_X2_64 oX2_copyRow) rfl rfl rfl hX2_copyRow.2 ⟨Nat.le_of_ble_eq_true rfl, Nat.le_of_ble_eq_true rfl⟩) ⟨zPc_blind, z_pre hK hR⟩ rfl rfl hl.1 rfl (lv_room (Nat.le_of_ble_eq_true rfl)) dX2_copyFrom_128 ⟨Nat.zero_le _, Nat.zero_le _⟩) (fun M33 H locs hR hS hF => ?_)
  refine lv_aload_n S.1 S.2.1 dX2_copyFrom_131 rfl (lv_at hl 1 rfl) ?_
  refine z_get (k := 1) (i := j1) (f := 13) (v := .ref (g.1 11 j1)) S hK hR hj1 rfl rfl (by decide) wf_X2_39 rfl dX2_copyFrom_132 ?_
  refine lv_aload_n S.1 S.2.1 dX2_copyFrom_135 rfl (lv_at hl 0 rfl) ?_
  refine z_get (k := 1) (i := j) (f := 13) (v := .ref (g.1 11 j)) S hK hR hj rfl rfl (by decide) wf_X2_39 rfl dX2_copyFrom_136 ?_
  refine z_gov hS hF (fun _ _ ho => va_runS (n := 2) (As := [.ref (g.1 11 j1), .ref (g.1 11 j)]) (rest := []) S (kX2_copyRow l hg (by decide) (by decide) hj1 hj ho) (va_cwS 2 S.2.2.2.2 (zgS wm_X2_64 oX2_copyRow) rfl rfl rfl hX2_copyRow.2 ⟨Nat.le_of_ble_eq_true rfl, Nat.le_of_ble_eq_true rfl⟩) ⟨zPc_blind, z_pre hK hR⟩ rfl rfl hl.1 rfl (lv_room (Nat.le_of_ble_eq_true rfl)) dX2_copyFrom_139 ⟨Nat.zero_le _, Nat.zero_le _⟩) (fun M34 H locs hR hS hF => ?_)
  refine lv_aload_n S.1 S.2.1 dX2_copyFrom_142 rfl (lv_at hl 1 rfl) ?_
  refine z_get (k := 1) (i := j1) (f := 14) (v := .ref (g.1 12 j1)) S hK hR hj1 rfl rfl (by decide) wf_X2_42 rfl dX2_copyFrom_143 ?_
  refine lv_aload_n S.1 S.2.1 dX2_copyFrom_146 rfl (lv_at hl 0 rfl) ?_
  refine z_get (k := 1) (i := j) (f := 14) (v := .ref (g.1 12 j)) S hK hR hj rfl rfl (by decide) wf_X2_42 rfl dX2_copyFrom_147 ?_
  refine z_gov hS hF (fun _ _ ho => va_runS (n := 2) (As := [.ref (g.1 12 j1), .ref (g.1 12 j)]) (rest := []) S (kX2_copyRow l hg (by decide) (by decide) hj1 hj ho) (va_cwS 2 S.2.2.2.2 (zgS wm_X2_64 oX2_copyRow) rfl rfl rfl hX2_copyRow.2 ⟨Nat.le_of_ble_eq_true rfl, Nat.le_of_ble_eq_true rfl⟩) ⟨zPc_blind, z_pre hK hR⟩ rfl rfl hl.1 rfl (lv_room (Nat.le_of_ble_eq_true rfl)) dX2_copyFrom_150 ⟨Nat.zero_le _, Nat.zero_le _⟩) (fun M35 H locs hR hS hF => ?_)
  refine lv_aload_n S.1 S.2.1 dX2_copyFrom_153 rfl (lv_at hl 1 rfl) ?_
  refine z_get (k := 1) (i := j1) (f := 15) (v := .ref (g.1 13 j1)) S hK hR hj1 rfl rfl (by decide) wf_X2_45 rfl dX2_copyFrom_154 ?_
  refine lv_aload_n S.1 S.2.1 dX2_copyFrom_157 rfl (lv_at hl 0 rfl) ?_
  refine z_get (k := 1) (i := j) (f := 15) (v := .ref (g.1 13 j)) S hK hR hj rfl rfl (by decide) wf_X2_45 rfl dX2_copyFrom_158 ?_
  refine z_gov hS hF (fun _ _ ho => va_runS (n := 2) (As := [.ref (g.1 13 j1), .ref (g.1 13 j)]) (rest := []) S (kX2_copyRow l hg (by decide) (by decide) hj1 hj ho) (va_cwS 2 S.2.2.2.2 (zgS wm_X2_64 oX2_copyRow) rfl rfl rfl hX2_copyRow.2 ⟨Nat.le_of_ble_eq_true rfl, Nat.le_of_ble_eq_true rfl⟩) ⟨zPc_blind, z_pre hK hR⟩ rfl rfl hl.1 rfl (lv_room (Nat.le_of_ble_eq_true rfl)) dX2_copyFrom_161 ⟨Nat.zero_le _, Nat.zero_le _⟩) (fun M36 H locs hR hS hF => ?_)
  refine lv_aload_n S.1 S.2.1 dX2_copyFrom_164 rfl (lv_at hl 1 rfl) ?_
  refine z_get (k := 1) (i := j1) (f := 16) (v := .ref (g.1 14 j1)) S hK hR hj1 rfl rfl (by decide) wf_X2_48 rfl dX2_copyFrom_165 ?_
  refine lv_aload_n S.1 S.2.1 dX2_copyFrom_168 rfl (lv_at hl 0 rfl) ?_
  refine z_get (k := 1) (i := j) (f := 16) (v := .ref (g.1 14 j)) S hK hR hj rfl rfl (by decide) wf_X2_48 rfl dX2_copyFrom_169 ?_
  refine z_gov hS hF (fun _ _ ho => va_runS (n := 2) (As := [.ref (g.1 14 j1), .ref (g.1 14 j)]) (rest := []) S (kX2_copyRow l hg (by decide) (by decide) hj1 hj ho) (va_cwS 2 S.2.2.2.2 (zgS wm_X2_64 oX2_copyRow) rfl rfl rfl hX2_copyRow.2 ⟨Nat.le_of_ble_eq_true rfl, Nat.le_of_ble_eq_true rfl⟩) ⟨zPc_blind, z_pre hK hR⟩ rfl rfl hl.1 rfl (lv_room (Nat.le_of_ble_eq_true rfl)) dX2_copyFrom_172 ⟨Nat.zero_le _, Nat.zero_le _⟩) (fun M37 H locs hR hS hF => ?_)
  exact z_vret S hr hlk hR hS hF dX2_copyFrom_175
theorem hX2_has : yX2_has.cls = RX2 ∧ yX2_has.cls ≠ "java/lang/invoke/MethodHandle" ∧ yX2_has.cls ≠ "java/lang/invoke/VarHandle" ∧ (parseMethodDescriptor yX2_has.desc).map (fun d => d.parameters.length) = some 1 := by decide +kernel
theorem oX2_has : Cond.instanceMethod yX2_has ∈ zT ∧ Cond.selects RX2 yX2_has yX2_has ∈ zT ∧ Cond.initialized RX2 ∈ zT ∧ Cond.code yX2_has cX2_has 2 (some .boolean) ∈ zT := ⟨wv_X2_has, we_X2_has, wi_X2, wk_X2_has⟩
set_option maxRecDepth 100000 in
set_option maxHeartbeats 4000000 in
theorem kX2_has (l : Launch) {g : zGeo} {z : Nat} (hg : zAd g z) {M M' : zM} {j : Nat} (hj : j < 10) {v1 : Int32} {r : Int32} (hF : fX2_has M j v1 = some (r, M')) : Met l yX2_has [.code yX2_has cX2_has 2 (some .boolean)] { frames := 0, cells := 0, slots := 0, locals := 0 } (zPc g M [.ref (g.1 1 j), .int v1]) (zQi g z r M') 0 0 (zS z) := by
  refine z_enter (cc := cX2_has) (maxL := 2) (ret := (some .boolean)) (by decide) rfl (Nat.le_of_ble_eq_true rfl) ?_
  intro p e s m below meth c S hr hlk hK hR hS ls hl
  have S : CallFix p m c cX2_has 2 s _ zT RX2 := S
  have hl : lv_has ls 2 [(0, .ref (g.1 1 j)), (1, .int v1)] := hl
  unfold fX2_has at hF
  refine lv_iload_n S.1 S.2.1 dX2_has_0 rfl (lv_at hl 1 rfl) ?_
  refine lv_if_lt (tgt := 22) S.1 S.2.1 dX2_has_1 (by decide) (fun hc21 => ?_) (fun hc21 => ?_)
  · replace hF := z_ct hF hc21
    refine lv_iconst (v := 0) S.1 S.2.1 dX2_has_22 (by decide) ?_
    exact z_zretc S hr hlk hR hS (by decide) hF dX2_has_23
  · replace hF := z_cf hF hc21
    refine lv_iload_n S.1 S.2.1 dX2_has_4 rfl (lv_at hl 1 rfl) ?_
    refine lv_aload_n S.1 S.2.1 dX2_has_5 rfl (lv_at hl 0 rfl) ?_
    refine z_get (k := 1) (i := j) (f := 0) (v := .int (M 1 j 0)) S hK hR hj rfl rfl (by decide) wf_X2_51 rfl dX2_has_6 ?_
    refine lv_icmp_ge (tgt := 22) S.1 S.2.1 dX2_has_9 (by decide) (fun hc22 => ?_) (fun hc22 => ?_)
    · replace hF := z_ct hF hc22
      refine lv_iconst (v := 0) S.1 S.2.1 dX2_has_22 (by decide) ?_
      exact z_zretc S hr hlk hR hS (by decide) hF dX2_has_23
    · replace hF := z_cf hF hc22
      refine lv_iload_n S.1 S.2.1 dX2_has_12 rfl (lv_at hl 1 rfl) ?_
      refine lv_bipush (v := 6) S.1 S.2.1 dX2_has_13 (by decide) ?_
      refine lv_icmp_ge (tgt := 22) S.1 S.2.1 dX2_has_15 (by decide) (fun hc23 => ?_) (fun hc23 => ?_)
      · replace hF := z_ct hF hc23
        refine lv_iconst (v := 0) S.1 S.2.1 dX2_has_22 (by decide) ?_
        exact z_zretc S hr hlk hR hS (by decide) hF dX2_has_23
      · replace hF := z_cf hF hc23
        refine lv_iconst (v := 1) S.1 S.2.1 dX2_has_18 (by decide) ?_
        refine lv_goto (tgt := 23) S.1 S.2.1 dX2_has_19 (by decide) ?_
        exact z_zretc S hr hlk hR hS (by decide) hF dX2_has_23
theorem hX2_isFlying : yX2_isFlying.cls = RX2 ∧ yX2_isFlying.cls ≠ "java/lang/invoke/MethodHandle" ∧ yX2_isFlying.cls ≠ "java/lang/invoke/VarHandle" ∧ (parseMethodDescriptor yX2_isFlying.desc).map (fun d => d.parameters.length) = some 1 := by decide +kernel
theorem oX2_isFlying : Cond.instanceMethod yX2_isFlying ∈ zT ∧ Cond.selects RX2 yX2_isFlying yX2_isFlying ∈ zT ∧ Cond.initialized RX2 ∈ zT ∧ Cond.code yX2_isFlying cX2_isFlying 2 (some .boolean) ∈ zT := ⟨wv_X2_isFlying, we_X2_isFlying, wi_X2, wk_X2_isFlying⟩
set_option maxRecDepth 100000 in
set_option maxHeartbeats 4000000 in
theorem kX2_isFlying (l : Launch) {g : zGeo} {z : Nat} (hg : zAd g z) {M M' : zM} {j : Nat} (hj : j < 10) {v1 : Int32} {r : Int32} (hF : fX2_isFlying M j v1 = some (r, M')) : Met l yX2_isFlying [.code yX2_isFlying cX2_isFlying 2 (some .boolean)] { frames := 1, cells := 0, slots := 0, locals := 21 } (zPc g M [.ref (g.1 1 j), .int v1]) (zQi g z r M') 0 0 (zS z) := by
  refine z_enter (cc := cX2_isFlying) (maxL := 2) (ret := (some .boolean)) (by decide) rfl (Nat.le_of_ble_eq_true rfl) ?_
  intro p e s m below meth c S hr hlk hK hR hS ls hl
  have S : CallFix p m c cX2_isFlying 2 s _ zT RX2 := S
  have hl : lv_has ls 2 [(0, .ref (g.1 1 j)), (1, .int v1)] := hl
  unfold fX2_isFlying at hF
  refine lv_aload_n S.1 S.2.1 dX2_isFlying_0 rfl (lv_at hl 0 rfl) ?_
  refine lv_iload_n S.1 S.2.1 dX2_isFlying_1 rfl (lv_at hl 1 rfl) ?_
  refine z_goi hS hF (fun _ _ ho => va_runV (C := RX2) (n := 1) (As := [.int v1]) (rest := []) S (kX2_has l hg hj ho) (cwV 1 S.2.2.2.2 (zgV wm_X2_80 oX2_has) rfl rfl rfl hX2_has ⟨Nat.le_of_ble_eq_true rfl, Nat.le_of_ble_eq_true rfl⟩) ⟨zPc_blind, z_recv hK hR hj rfl rfl, z_pre hK hR⟩ rfl rfl hl.1 rfl (lv_room (Nat.le_of_ble_eq_true rfl)) dX2_isFlying_2 ⟨Nat.zero_le _, Nat.zero_le _⟩) (fun r22 M21 H locs hR hS hF => ?_)
  refine lv_if_eq (tgt := 21) S.1 S.2.1 dX2_isFlying_5 (by decide) (fun hc23 => ?_) (fun hc23 => ?_)
  · replace hF := z_ct hF hc23
    refine lv_iconst (v := 0) S.1 S.2.1 dX2_isFlying_21 (by decide) ?_
    exact z_zretc S hr hlk hR hS (by decide) hF dX2_isFlying_22
  · replace hF := z_cf hF hc23
    refine lv_aload_n S.1 S.2.1 dX2_isFlying_8 rfl (lv_at hl 0 rfl) ?_
    refine z_get (k := 1) (i := j) (f := 12) (v := .ref (g.1 10 j)) S hK hR hj rfl rfl (by decide) wf_X2_36 rfl dX2_isFlying_9 ?_
    refine lv_iload_n S.1 S.2.1 dX2_isFlying_12 rfl (lv_at hl 1 rfl) ?_
    refine z_iald (k := 10) (i := j) (n := 6) S hK hR hF hj rfl dX2_isFlying_13 (fun hF => ?_)
    refine lv_if_ne (tgt := 21) S.1 S.2.1 dX2_isFlying_14 (by decide) (fun hc24 => ?_) (fun hc24 => ?_)
    · replace hF := z_cf hF hc24
      refine lv_iconst (v := 0) S.1 S.2.1 dX2_isFlying_21 (by decide) ?_
      exact z_zretc S hr hlk hR hS (by decide) hF dX2_isFlying_22
    · replace hF := z_ct hF hc24
      refine lv_iconst (v := 1) S.1 S.2.1 dX2_isFlying_17 (by decide) ?_
      refine lv_goto (tgt := 22) S.1 S.2.1 dX2_isFlying_18 (by decide) ?_
      exact z_zretc S hr hlk hR hS (by decide) hF dX2_isFlying_22
theorem hX2_hasRoom : yX2_hasRoom.cls = RX2 ∧ yX2_hasRoom.cls ≠ "java/lang/invoke/MethodHandle" ∧ yX2_hasRoom.cls ≠ "java/lang/invoke/VarHandle" ∧ (parseMethodDescriptor yX2_hasRoom.desc).map (fun d => d.parameters.length) = some 0 := by decide +kernel
theorem oX2_hasRoom : Cond.instanceMethod yX2_hasRoom ∈ zT ∧ Cond.selects RX2 yX2_hasRoom yX2_hasRoom ∈ zT ∧ Cond.initialized RX2 ∈ zT ∧ Cond.code yX2_hasRoom cX2_hasRoom 1 (some .boolean) ∈ zT := ⟨wv_X2_hasRoom, we_X2_hasRoom, wi_X2, wk_X2_hasRoom⟩
set_option maxRecDepth 100000 in
set_option maxHeartbeats 4000000 in
theorem kX2_hasRoom (l : Launch) {g : zGeo} {z : Nat} (hg : zAd g z) {M M' : zM} {j : Nat} (hj : j < 10) {r : Int32} (hF : fX2_hasRoom M j = some (r, M')) : Met l yX2_hasRoom [.code yX2_hasRoom cX2_hasRoom 1 (some .boolean)] { frames := 0, cells := 0, slots := 0, locals := 0 } (zPc g M [.ref (g.1 1 j)]) (zQi g z r M') 0 0 (zS z) := by
  refine z_enter (cc := cX2_hasRoom) (maxL := 1) (ret := (some .boolean)) (by decide) rfl (Nat.le_of_ble_eq_true rfl) ?_
  intro p e s m below meth c S hr hlk hK hR hS ls hl
  have S : CallFix p m c cX2_hasRoom 1 s _ zT RX2 := S
  have hl : lv_has ls 1 [(0, .ref (g.1 1 j))] := hl
  unfold fX2_hasRoom at hF
  refine lv_aload_n S.1 S.2.1 dX2_hasRoom_0 rfl (lv_at hl 0 rfl) ?_
  refine z_get (k := 1) (i := j) (f := 0) (v := .int (M 1 j 0)) S hK hR hj rfl rfl (by decide) wf_X2_51 rfl dX2_hasRoom_1 ?_
  refine lv_if_lt (tgt := 20) S.1 S.2.1 dX2_hasRoom_4 (by decide) (fun hc21 => ?_) (fun hc21 => ?_)
  · replace hF := z_ct hF hc21
    refine lv_iconst (v := 0) S.1 S.2.1 dX2_hasRoom_20 (by decide) ?_
    exact z_zretc S hr hlk hR hS (by decide) hF dX2_hasRoom_21
  · replace hF := z_cf hF hc21
    refine lv_aload_n S.1 S.2.1 dX2_hasRoom_7 rfl (lv_at hl 0 rfl) ?_
    refine z_get (k := 1) (i := j) (f := 0) (v := .int (M 1 j 0)) S hK hR hj rfl rfl (by decide) wf_X2_51 rfl dX2_hasRoom_8 ?_
    refine lv_bipush (v := 6) S.1 S.2.1 dX2_hasRoom_11 (by decide) ?_
    refine lv_icmp_ge (tgt := 20) S.1 S.2.1 dX2_hasRoom_13 (by decide) (fun hc22 => ?_) (fun hc22 => ?_)
    · replace hF := z_ct hF hc22
      refine lv_iconst (v := 0) S.1 S.2.1 dX2_hasRoom_20 (by decide) ?_
      exact z_zretc S hr hlk hR hS (by decide) hF dX2_hasRoom_21
    · replace hF := z_cf hF hc22
      refine lv_iconst (v := 1) S.1 S.2.1 dX2_hasRoom_16 (by decide) ?_
      refine lv_goto (tgt := 21) S.1 S.2.1 dX2_hasRoom_17 (by decide) ?_
      exact z_zretc S hr hlk hR hS (by decide) hF dX2_hasRoom_21
theorem hX2_sendUp : yX2_sendUp.cls = RX2 ∧ yX2_sendUp.cls ≠ "java/lang/invoke/MethodHandle" ∧ yX2_sendUp.cls ≠ "java/lang/invoke/VarHandle" ∧ (parseMethodDescriptor yX2_sendUp.desc).map (fun d => d.parameters.length) = some 1 := by decide +kernel
theorem oX2_sendUp : Cond.instanceMethod yX2_sendUp ∈ zT ∧ Cond.selects RX2 yX2_sendUp yX2_sendUp ∈ zT ∧ Cond.initialized RX2 ∈ zT ∧ Cond.code yX2_sendUp cX2_sendUp 3 none ∈ zT := ⟨wv_X2_sendUp, we_X2_sendUp, wi_X2, wk_X2_sendUp⟩
set_option maxRecDepth 100000 in
set_option maxHeartbeats 4000000 in
theorem kX2_sendUp (l : Launch) {g : zGeo} {z : Nat} (hg : zAd g z) {M M' : zM} {j : Nat} (hj : j < 10) {v1 : Int32} {r : Unit} (hF : fX2_sendUp M j v1 = some (r, M')) : Met l yX2_sendUp [.code yX2_sendUp cX2_sendUp 3 none] { frames := 0, cells := 0, slots := 0, locals := 0 } (zPc g M [.ref (g.1 1 j), .int v1]) (zQv g z M') 0 0 (zS z) := by
  refine z_enter (cc := cX2_sendUp) (maxL := 3) (ret := none) (by decide) rfl (Nat.le_of_ble_eq_true rfl) ?_
  intro p e s m below meth c S hr hlk hK hR hS ls hl
  have S : CallFix p m c cX2_sendUp 3 s _ zT RX2 := S
  have hl : lv_has ls 3 [(0, .ref (g.1 1 j)), (1, .int v1)] := hl
  have L59 : ∀ (k : zM → Int32 → Option (Unit × zM)) (a1 : Int32), (∀ (M : zM) (a2 : Int32) (H : Heap) (locs : List Loc), zR g M H → va_S (zS z) s.heap H locs → ∀ ls : Array Slot, lv_has ls 3 [(0, .ref (g.1 1 j)), (1, .int a1), (2, .int a2)] → k M a2 = some (r, M') → W p l e { frames := 0, cells := 0, slots := 0, locals := 0 } s m ([.ref (g.1 1 j), .int v1] : List Value).toArray below meth c H locs 0 0 (MQ below (zQv g z M') ([.ref (g.1 1 j), .int v1] : List Value).toArray s 0 0 (zS z)) (F0 m 83 ls [])) → ∀ (n : Nat) (M : zM) (a2 : Int32) (H : Heap) (locs : List Loc), zR g M H → va_S (zS z) s.heap H locs → ∀ ls : Array Slot, lv_has ls 3 [(0, .ref (g.1 1 j)), (1, .int a1), (2, .int a2)] → fX2_sendUp_L59 k j a1 n M a2 = some (r, M') → W p l e { frames := 0, cells := 0, slots := 0, locals := 0 } s m ([.ref (g.1 1 j), .int v1] : List Value).toArray below meth c H locs 0 0 (MQ below (zQv g z M') ([.ref (g.1 1 j), .int v1] : List Value).toArray s 0 0 (zS z)) (F0 m 59 ls []) := by
    intro k a1 hk n
    induction n with
    | zero =>
      intro M a2 H locs hR hS ls hl hF
      cases hF
    | succ n ih =>
      intro M a2 H locs hR hS ls hl hF
      unfold fX2_sendUp_L59 at hF
      refine lv_iload_n S.1 S.2.1 dX2_sendUp_59 rfl (lv_at hl 2 rfl) ?_
      refine lv_bipush (v := 32) S.1 S.2.1 dX2_sendUp_60 (by decide) ?_
      refine lv_icmp_ge (tgt := 83) S.1 S.2.1 dX2_sendUp_62 (by decide) (fun hc27 => ?_) (fun hc27 => ?_)
      · replace hF := z_ct hF hc27
        exact hk _ _ _ _ hR hS _ (lv_sub hl [0, 1, 2] rfl) hF
      · replace hF := z_cf hF hc27
        refine lv_aload_n S.1 S.2.1 dX2_sendUp_65 rfl (lv_at hl 0 rfl) ?_
        refine z_get (k := 1) (i := j) (f := 16) (v := .ref (g.1 14 j)) S hK hR hj rfl rfl (by decide) wf_X2_48 rfl dX2_sendUp_66 ?_
        refine lv_iload_n S.1 S.2.1 dX2_sendUp_69 rfl (lv_at hl 1 rfl) ?_
        refine lv_bipush (v := 32) S.1 S.2.1 dX2_sendUp_70 (by decide) ?_
        refine lv_imul S.1 S.2.1 dX2_sendUp_72 ?_
        refine lv_iload_n S.1 S.2.1 dX2_sendUp_73 rfl (lv_at hl 2 rfl) ?_
        refine lv_iadd S.1 S.2.1 dX2_sendUp_74 ?_
        refine lv_iconst (v := 0) S.1 S.2.1 dX2_sendUp_75 (by decide) ?_
        refine z_iast (k := 14) (i := j) (n := 192) S hg hK hR hS hF hj rfl dX2_sendUp_76 (fun H locs M28 hR hS hF => ?_)
        obtain ⟨v29, ev29, hF⟩ := zL_out hF
        refine lv_iinc (v := v29) (lv' := [(2, .int v29), (0, .ref (g.1 1 j)), (1, .int a1)]) S.1 S.2.1 dX2_sendUp_77 hl (k := 2) rfl (by rw [← ev29]; rfl) (by decide) rfl (fun ls hl => ?_)
        refine lv_goto (tgt := 59) S.1 S.2.1 dX2_sendUp_80 (by decide) ?_
        exact ih _ _ _ _ hR hS _ (lv_sub hl [1, 2, 0] rfl) hF
  unfold fX2_sendUp at hF
  refine lv_aload_n S.1 S.2.1 dX2_sendUp_0 rfl (lv_at hl 0 rfl) ?_
  refine z_get (k := 1) (i := j) (f := 4) (v := .ref (g.1 2 j)) S hK hR hj rfl rfl (by decide) wf_X2_9 rfl dX2_sendUp_1 ?_
  refine lv_iload_n S.1 S.2.1 dX2_sendUp_4 rfl (lv_at hl 1 rfl) ?_
  refine lv_aload_n S.1 S.2.1 dX2_sendUp_5 rfl (lv_at hl 0 rfl) ?_
  refine z_get (k := 1) (i := j) (f := 13) (v := .ref (g.1 11 j)) S hK hR hj rfl rfl (by decide) wf_X2_39 rfl dX2_sendUp_6 ?_
  refine lv_iload_n S.1 S.2.1 dX2_sendUp_9 rfl (lv_at hl 1 rfl) ?_
  refine z_iald (k := 11) (i := j) (n := 6) S hK hR hF hj rfl dX2_sendUp_10 (fun hF => ?_)
  refine z_iast (k := 2) (i := j) (n := 6) S hg hK hR hS hF hj rfl dX2_sendUp_11 (fun H locs M21 hR hS hF => ?_)
  refine lv_aload_n S.1 S.2.1 dX2_sendUp_12 rfl (lv_at hl 0 rfl) ?_
  refine z_get (k := 1) (i := j) (f := 5) (v := .ref (g.1 3 j)) S hK hR hj rfl rfl (by decide) wf_X2_15 rfl dX2_sendUp_13 ?_
  refine lv_iload_n S.1 S.2.1 dX2_sendUp_16 rfl (lv_at hl 1 rfl) ?_
  refine lv_aload_n S.1 S.2.1 dX2_sendUp_17 rfl (lv_at hl 0 rfl) ?_
  refine z_get (k := 1) (i := j) (f := 14) (v := .ref (g.1 12 j)) S hK hR hj rfl rfl (by decide) wf_X2_42 rfl dX2_sendUp_18 ?_
  refine lv_iload_n S.1 S.2.1 dX2_sendUp_21 rfl (lv_at hl 1 rfl) ?_
  refine z_iald (k := 12) (i := j) (n := 6) S hK hR hF hj rfl dX2_sendUp_22 (fun hF => ?_)
  refine z_iast (k := 3) (i := j) (n := 6) S hg hK hR hS hF hj rfl dX2_sendUp_23 (fun H locs M22 hR hS hF => ?_)
  refine lv_aload_n S.1 S.2.1 dX2_sendUp_24 rfl (lv_at hl 0 rfl) ?_
  refine z_get (k := 1) (i := j) (f := 6) (v := .ref (g.1 4 j)) S hK hR hj rfl rfl (by decide) wf_X2_18 rfl dX2_sendUp_25 ?_
  refine lv_iload_n S.1 S.2.1 dX2_sendUp_28 rfl (lv_at hl 1 rfl) ?_
  refine lv_aload_n S.1 S.2.1 dX2_sendUp_29 rfl (lv_at hl 0 rfl) ?_
  refine z_get (k := 1) (i := j) (f := 15) (v := .ref (g.1 13 j)) S hK hR hj rfl rfl (by decide) wf_X2_45 rfl dX2_sendUp_30 ?_
  refine lv_iload_n S.1 S.2.1 dX2_sendUp_33 rfl (lv_at hl 1 rfl) ?_
  refine z_iald (k := 13) (i := j) (n := 6) S hK hR hF hj rfl dX2_sendUp_34 (fun hF => ?_)
  refine z_iast (k := 4) (i := j) (n := 6) S hg hK hR hS hF hj rfl dX2_sendUp_35 (fun H locs M23 hR hS hF => ?_)
  refine lv_aload_n S.1 S.2.1 dX2_sendUp_36 rfl (lv_at hl 0 rfl) ?_
  refine z_get (k := 1) (i := j) (f := 7) (v := .ref (g.1 5 j)) S hK hR hj rfl rfl (by decide) wf_X2_21 rfl dX2_sendUp_37 ?_
  refine lv_iload_n S.1 S.2.1 dX2_sendUp_40 rfl (lv_at hl 1 rfl) ?_
  refine lv_iconst (v := 0) S.1 S.2.1 dX2_sendUp_41 (by decide) ?_
  refine z_iast (k := 5) (i := j) (n := 6) S hg hK hR hS hF hj rfl dX2_sendUp_42 (fun H locs M24 hR hS hF => ?_)
  refine lv_aload_n S.1 S.2.1 dX2_sendUp_43 rfl (lv_at hl 0 rfl) ?_
  refine z_get (k := 1) (i := j) (f := 8) (v := .ref (g.1 6 j)) S hK hR hj rfl rfl (by decide) wf_X2_24 rfl dX2_sendUp_44 ?_
  refine lv_iload_n S.1 S.2.1 dX2_sendUp_47 rfl (lv_at hl 1 rfl) ?_
  refine lv_iconst (v := 0) S.1 S.2.1 dX2_sendUp_48 (by decide) ?_
  refine z_iast (k := 6) (i := j) (n := 6) S hg hK hR hS hF hj rfl dX2_sendUp_49 (fun H locs M25 hR hS hF => ?_)
  refine lv_aload_n S.1 S.2.1 dX2_sendUp_50 rfl (lv_at hl 0 rfl) ?_
  refine z_get (k := 1) (i := j) (f := 12) (v := .ref (g.1 10 j)) S hK hR hj rfl rfl (by decide) wf_X2_36 rfl dX2_sendUp_51 ?_
  refine lv_iload_n S.1 S.2.1 dX2_sendUp_54 rfl (lv_at hl 1 rfl) ?_
  refine lv_iconst (v := 0) S.1 S.2.1 dX2_sendUp_55 (by decide) ?_
  refine z_iast (k := 10) (i := j) (n := 6) S hg hK hR hS hF hj rfl dX2_sendUp_56 (fun H locs M26 hR hS hF => ?_)
  refine lv_iconst (v := 0) S.1 S.2.1 dX2_sendUp_57 (by decide) ?_
  refine lv_istore_n (lv' := [(2, .int 0), (0, .ref (g.1 1 j)), (1, .int v1)]) S.1 S.2.1 dX2_sendUp_58 rfl hl (by decide) rfl (fun ls hl => ?_)
  refine L59 _ _ (fun M30 v31 H locs hR hS ls hl hF => ?_) _ _ _ _ _ hR hS _ (lv_sub hl [1, 2, 0] rfl) hF
  exact z_vret S hr hlk hR hS hF dX2_sendUp_83
theorem hX2_addKite : yX2_addKite.cls = RX2 ∧ yX2_addKite.cls ≠ "java/lang/invoke/MethodHandle" ∧ yX2_addKite.cls ≠ "java/lang/invoke/VarHandle" ∧ (parseMethodDescriptor yX2_addKite.desc).map (fun d => d.parameters.length) = some 5 := by decide +kernel
theorem oX2_addKite : Cond.instanceMethod yX2_addKite ∈ zT ∧ Cond.selects RX2 yX2_addKite yX2_addKite ∈ zT ∧ Cond.initialized RX2 ∈ zT ∧ Cond.code yX2_addKite cX2_addKite 7 (some .int) ∈ zT := ⟨wv_X2_addKite, we_X2_addKite, wi_X2, wk_X2_addKite⟩
set_option maxRecDepth 100000 in
set_option maxHeartbeats 4000000 in
theorem kX2_addKite (l : Launch) {g : zGeo} {z : Nat} (hg : zAd g z) {M M' : zM} {j : Nat} (hj : j < 10) {v1 : Int32} {v2 : Int32} {v3 : Int32} {v4 : Int32} {v5 : Int32} {r : Int32} (hF : fX2_addKite M j v1 v2 v3 v4 v5 = some (r, M')) : Met l yX2_addKite [.code yX2_addKite cX2_addKite 7 (some .int)] { frames := 1, cells := 0, slots := 0, locals := 22 } (zPc g M [.ref (g.1 1 j), .int v1, .int v2, .int v3, .int v4, .int v5]) (zQi g z r M') 0 0 (zS z) := by
  refine z_enter (cc := cX2_addKite) (maxL := 7) (ret := (some .int)) (by decide) rfl (Nat.le_of_ble_eq_true rfl) ?_
  intro p e s m below meth c S hr hlk hK hR hS ls hl
  have S : CallFix p m c cX2_addKite 7 s _ zT RX2 := S
  have hl : lv_has ls 7 [(0, .ref (g.1 1 j)), (1, .int v1), (2, .int v2), (3, .int v3), (4, .int v4), (5, .int v5)] := hl
  unfold fX2_addKite at hF
  refine lv_aload_n S.1 S.2.1 dX2_addKite_0 rfl (lv_at hl 0 rfl) ?_
  refine z_get (k := 1) (i := j) (f := 0) (v := .int (M 1 j 0)) S hK hR hj rfl rfl (by decide) wf_X2_51 rfl dX2_addKite_1 ?_
  refine z_nm hF (fun v21 hF => ?_)
  refine lv_istore (lv' := [(6, .int v21), (0, .ref (g.1 1 j)), (1, .int v1), (2, .int v2), (3, .int v3), (4, .int v4), (5, .int v5)]) S.1 S.2.1 dX2_addKite_4 hl (by decide) rfl (fun ls hl => ?_)
  refine lv_aload_n S.1 S.2.1 dX2_addKite_6 rfl (lv_at hl 1 rfl) ?_
  refine z_get (k := 1) (i := j) (f := 13) (v := .ref (g.1 11 j)) S hK hR hj rfl rfl (by decide) wf_X2_39 rfl dX2_addKite_7 ?_
  refine lv_iload S.1 S.2.1 dX2_addKite_10 (lv_at hl 0 rfl) ?_
  refine lv_iload_n S.1 S.2.1 dX2_addKite_12 rfl (lv_at hl 2 rfl) ?_
  refine z_iast (k := 11) (i := j) (n := 6) S hg hK hR hS hF hj rfl dX2_addKite_13 (fun H locs M22 hR hS hF => ?_)
  refine lv_aload_n S.1 S.2.1 dX2_addKite_14 rfl (lv_at hl 1 rfl) ?_
  refine z_get (k := 1) (i := j) (f := 14) (v := .ref (g.1 12 j)) S hK hR hj rfl rfl (by decide) wf_X2_42 rfl dX2_addKite_15 ?_
  refine lv_iload S.1 S.2.1 dX2_addKite_18 (lv_at hl 0 rfl) ?_
  refine lv_iload_n S.1 S.2.1 dX2_addKite_20 rfl (lv_at hl 3 rfl) ?_
  refine z_iast (k := 12) (i := j) (n := 6) S hg hK hR hS hF hj rfl dX2_addKite_21 (fun H locs M23 hR hS hF => ?_)
  refine lv_aload_n S.1 S.2.1 dX2_addKite_22 rfl (lv_at hl 1 rfl) ?_
  refine z_get (k := 1) (i := j) (f := 15) (v := .ref (g.1 13 j)) S hK hR hj rfl rfl (by decide) wf_X2_45 rfl dX2_addKite_23 ?_
  refine lv_iload S.1 S.2.1 dX2_addKite_26 (lv_at hl 0 rfl) ?_
  refine lv_iload_n S.1 S.2.1 dX2_addKite_28 rfl (lv_at hl 4 rfl) ?_
  refine z_iast (k := 13) (i := j) (n := 6) S hg hK hR hS hF hj rfl dX2_addKite_29 (fun H locs M24 hR hS hF => ?_)
  refine lv_aload_n S.1 S.2.1 dX2_addKite_30 rfl (lv_at hl 1 rfl) ?_
  refine z_get (k := 1) (i := j) (f := 9) (v := .ref (g.1 7 j)) S hK hR hj rfl rfl (by decide) wf_X2_27 rfl dX2_addKite_31 ?_
  refine lv_iload S.1 S.2.1 dX2_addKite_34 (lv_at hl 0 rfl) ?_
  refine lv_iload S.1 S.2.1 dX2_addKite_36 (lv_at hl 5 rfl) ?_
  refine z_iast (k := 7) (i := j) (n := 6) S hg hK hR hS hF hj rfl dX2_addKite_38 (fun H locs M25 hR hS hF => ?_)
  refine lv_aload_n S.1 S.2.1 dX2_addKite_39 rfl (lv_at hl 1 rfl) ?_
  refine z_get (k := 1) (i := j) (f := 10) (v := .ref (g.1 8 j)) S hK hR hj rfl rfl (by decide) wf_X2_30 rfl dX2_addKite_40 ?_
  refine lv_iload S.1 S.2.1 dX2_addKite_43 (lv_at hl 0 rfl) ?_
  refine lv_iload S.1 S.2.1 dX2_addKite_45 (lv_at hl 6 rfl) ?_
  refine z_iast (k := 8) (i := j) (n := 6) S hg hK hR hS hF hj rfl dX2_addKite_47 (fun H locs M26 hR hS hF => ?_)
  refine lv_aload_n S.1 S.2.1 dX2_addKite_48 rfl (lv_at hl 1 rfl) ?_
  refine z_get (k := 1) (i := j) (f := 11) (v := .ref (g.1 9 j)) S hK hR hj rfl rfl (by decide) wf_X2_33 rfl dX2_addKite_49 ?_
  refine lv_iload S.1 S.2.1 dX2_addKite_52 (lv_at hl 0 rfl) ?_
  refine lv_iconst (v := 0) S.1 S.2.1 dX2_addKite_54 (by decide) ?_
  refine z_iast (k := 9) (i := j) (n := 6) S hg hK hR hS hF hj rfl dX2_addKite_55 (fun H locs M27 hR hS hF => ?_)
  refine lv_aload_n S.1 S.2.1 dX2_addKite_56 rfl (lv_at hl 1 rfl) ?_
  refine lv_iload S.1 S.2.1 dX2_addKite_57 (lv_at hl 0 rfl) ?_
  refine z_gov hS hF (fun _ _ ho => va_runV (C := RX2) (n := 1) (As := [.int v21]) (rest := []) S (kX2_sendUp l hg hj ho) (cwV 1 S.2.2.2.2 (zgV wm_X2_84 oX2_sendUp) rfl rfl rfl hX2_sendUp ⟨Nat.le_of_ble_eq_true rfl, Nat.le_of_ble_eq_true rfl⟩) ⟨zPc_blind, z_recv hK hR hj rfl rfl, z_pre hK hR⟩ rfl rfl hl.1 rfl (lv_room (Nat.le_of_ble_eq_true rfl)) dX2_addKite_59 ⟨Nat.zero_le _, Nat.zero_le _⟩) (fun M28 H locs hR hS hF => ?_)
  refine lv_aload_n S.1 S.2.1 dX2_addKite_62 rfl (lv_at hl 1 rfl) ?_
  refine lv_dup S.1 S.2.1 dX2_addKite_63 rfl ?_
  refine z_get (k := 1) (i := j) (f := 0) (v := .int (M28 1 j 0)) S hK hR hj rfl rfl (by decide) wf_X2_51 rfl dX2_addKite_64 ?_
  refine lv_iconst (v := 1) S.1 S.2.1 dX2_addKite_67 (by decide) ?_
  refine lv_iadd S.1 S.2.1 dX2_addKite_68 ?_
  refine z_put (k := 1) (i := j) (f := 0) (ty := .int) S hg hK hR hS hF hj rfl rfl rfl (by decide) wf_X2_51 rfl (by decide +kernel) rfl rfl (Nat.le_of_ble_eq_true rfl) dX2_addKite_69 (fun H locs M29 hR hS hF => ?_)
  refine lv_iload S.1 S.2.1 dX2_addKite_72 (lv_at hl 0 rfl) ?_
  exact z_iret S hr hlk hR hS hF dX2_addKite_74
theorem hX2_beginAnew : yX2_beginAnew.cls = RX2 ∧ yX2_beginAnew.cls ≠ "java/lang/invoke/MethodHandle" ∧ yX2_beginAnew.cls ≠ "java/lang/invoke/VarHandle" ∧ (parseMethodDescriptor yX2_beginAnew.desc).map (fun d => d.parameters.length) = some 0 := by decide +kernel
theorem oX2_beginAnew : Cond.instanceMethod yX2_beginAnew ∈ zT ∧ Cond.selects RX2 yX2_beginAnew yX2_beginAnew ∈ zT ∧ Cond.initialized RX2 ∈ zT ∧ Cond.code yX2_beginAnew cX2_beginAnew 2 none ∈ zT := ⟨wv_X2_beginAnew, we_X2_beginAnew, wi_X2, wk_X2_beginAnew⟩
set_option maxRecDepth 100000 in
set_option maxHeartbeats 4000000 in
theorem kX2_beginAnew (l : Launch) {g : zGeo} {z : Nat} (hg : zAd g z) {M M' : zM} {j : Nat} (hj : j < 10) {r : Unit} (hF : fX2_beginAnew M j = some (r, M')) : Met l yX2_beginAnew [.code yX2_beginAnew cX2_beginAnew 2 none] { frames := 1, cells := 0, slots := 0, locals := 22 } (zPc g M [.ref (g.1 1 j)]) (zQv g z M') 0 0 (zS z) := by
  refine z_enter (cc := cX2_beginAnew) (maxL := 2) (ret := none) (by decide) rfl (Nat.le_of_ble_eq_true rfl) ?_
  intro p e s m below meth c S hr hlk hK hR hS ls hl
  have S : CallFix p m c cX2_beginAnew 2 s _ zT RX2 := S
  have hl : lv_has ls 2 [(0, .ref (g.1 1 j))] := hl
  have L2 : ∀ (k : zM → Int32 → Option (Unit × zM)) , (∀ (M : zM) (a1 : Int32) (H : Heap) (locs : List Loc), zR g M H → va_S (zS z) s.heap H locs → ∀ ls : Array Slot, lv_has ls 2 [(0, .ref (g.1 1 j)), (1, .int a1)] → k M a1 = some (r, M') → W p l e { frames := 1, cells := 0, slots := 0, locals := 22 } s m ([.ref (g.1 1 j)] : List Value).toArray below meth c H locs 0 0 (MQ below (zQv g z M') ([.ref (g.1 1 j)] : List Value).toArray s 0 0 (zS z)) (F0 m 27 ls [])) → ∀ (n : Nat) (M : zM) (a1 : Int32) (H : Heap) (locs : List Loc), zR g M H → va_S (zS z) s.heap H locs → ∀ ls : Array Slot, lv_has ls 2 [(0, .ref (g.1 1 j)), (1, .int a1)] → fX2_beginAnew_L2 k j n M a1 = some (r, M') → W p l e { frames := 1, cells := 0, slots := 0, locals := 22 } s m ([.ref (g.1 1 j)] : List Value).toArray below meth c H locs 0 0 (MQ below (zQv g z M') ([.ref (g.1 1 j)] : List Value).toArray s 0 0 (zS z)) (F0 m 2 ls []) := by
    intro k  hk n
    induction n with
    | zero =>
      intro M a1 H locs hR hS ls hl hF
      cases hF
    | succ n ih =>
      intro M a1 H locs hR hS ls hl hF
      unfold fX2_beginAnew_L2 at hF
      refine lv_iload_n S.1 S.2.1 dX2_beginAnew_2 rfl (lv_at hl 1 rfl) ?_
      refine lv_bipush (v := 6) S.1 S.2.1 dX2_beginAnew_3 (by decide) ?_
      refine lv_icmp_ge (tgt := 27) S.1 S.2.1 dX2_beginAnew_5 (by decide) (fun hc21 => ?_) (fun hc21 => ?_)
      · replace hF := z_ct hF hc21
        exact hk _ _ _ _ hR hS _ (lv_sub hl [0, 1] rfl) hF
      · replace hF := z_cf hF hc21
        refine lv_aload_n S.1 S.2.1 dX2_beginAnew_8 rfl (lv_at hl 0 rfl) ?_
        refine lv_iload_n S.1 S.2.1 dX2_beginAnew_9 rfl (lv_at hl 1 rfl) ?_
        refine z_goi hS hF (fun _ _ ho => va_runV (C := RX2) (n := 1) (As := [.int a1]) (rest := []) S (kX2_has l hg hj ho) (cwV 1 S.2.2.2.2 (zgV wm_X2_80 oX2_has) rfl rfl rfl hX2_has ⟨Nat.le_of_ble_eq_true rfl, Nat.le_of_ble_eq_true rfl⟩) ⟨zPc_blind, z_recv hK hR hj rfl rfl, z_pre hK hR⟩ rfl rfl hl.1 rfl (lv_room (Nat.le_of_ble_eq_true rfl)) dX2_beginAnew_10 ⟨Nat.zero_le _, Nat.zero_le _⟩) (fun r23 M22 H locs hR hS hF => ?_)
        refine lv_if_eq (tgt := 21) S.1 S.2.1 dX2_beginAnew_13 (by decide) (fun hc24 => ?_) (fun hc24 => ?_)
        · replace hF := z_ct hF hc24
          obtain ⟨v25, ev25, hF⟩ := zL_out hF
          refine lv_iinc (v := v25) (lv' := [(1, .int v25), (0, .ref (g.1 1 j))]) S.1 S.2.1 dX2_beginAnew_21 hl (k := 1) rfl (by rw [← ev25]; rfl) (by decide) rfl (fun ls hl => ?_)
          refine lv_goto (tgt := 2) S.1 S.2.1 dX2_beginAnew_24 (by decide) ?_
          exact ih _ _ _ _ hR hS _ (lv_sub hl [1, 0] rfl) hF
        · replace hF := z_cf hF hc24
          refine lv_aload_n S.1 S.2.1 dX2_beginAnew_16 rfl (lv_at hl 0 rfl) ?_
          refine lv_iload_n S.1 S.2.1 dX2_beginAnew_17 rfl (lv_at hl 1 rfl) ?_
          refine z_gov hS hF (fun _ _ ho => va_runV (C := RX2) (n := 1) (As := [.int a1]) (rest := []) S (kX2_sendUp l hg hj ho) (cwV 1 S.2.2.2.2 (zgV wm_X2_84 oX2_sendUp) rfl rfl rfl hX2_sendUp ⟨Nat.le_of_ble_eq_true rfl, Nat.le_of_ble_eq_true rfl⟩) ⟨zPc_blind, z_recv hK hR hj rfl rfl, z_pre hK hR⟩ rfl rfl hl.1 rfl (lv_room (Nat.le_of_ble_eq_true rfl)) dX2_beginAnew_18 ⟨Nat.zero_le _, Nat.zero_le _⟩) (fun M26 H locs hR hS hF => ?_)
          obtain ⟨v27, ev27, hF⟩ := zL_out hF
          refine lv_iinc (v := v27) (lv' := [(1, .int v27), (0, .ref (g.1 1 j))]) S.1 S.2.1 dX2_beginAnew_21 hl (k := 1) rfl (by rw [← ev27]; rfl) (by decide) rfl (fun ls hl => ?_)
          refine lv_goto (tgt := 2) S.1 S.2.1 dX2_beginAnew_24 (by decide) ?_
          exact ih _ _ _ _ hR hS _ (lv_sub hl [1, 0] rfl) hF
  unfold fX2_beginAnew at hF
  refine lv_iconst (v := 0) S.1 S.2.1 dX2_beginAnew_0 (by decide) ?_
  refine lv_istore_n (lv' := [(1, .int 0), (0, .ref (g.1 1 j))]) S.1 S.2.1 dX2_beginAnew_1 rfl hl (by decide) rfl (fun ls hl => ?_)
  refine L2 _ (fun M28 v29 H locs hR hS ls hl hF => ?_) _ _ _ _ _ hR hS _ (lv_sub hl [1, 0] rfl) hF
  refine lv_aload_n S.1 S.2.1 dX2_beginAnew_27 rfl (lv_at hl 0 rfl) ?_
  refine lv_dup S.1 S.2.1 dX2_beginAnew_28 rfl ?_
  refine z_get (k := 1) (i := j) (f := 2) (v := .int (M28 1 j 2)) S hK hR hj rfl rfl (by decide) wf_X2_58 rfl dX2_beginAnew_29 ?_
  refine lv_iconst (v := 1) S.1 S.2.1 dX2_beginAnew_32 (by decide) ?_
  refine lv_iadd S.1 S.2.1 dX2_beginAnew_33 ?_
  refine z_put (k := 1) (i := j) (f := 2) (ty := .int) S hg hK hR hS hF hj rfl rfl rfl (by decide) wf_X2_58 rfl (by decide +kernel) rfl rfl (Nat.le_of_ble_eq_true rfl) dX2_beginAnew_34 (fun H locs M30 hR hS hF => ?_)
  exact z_vret S hr hlk hR hS hF dX2_beginAnew_37
theorem hX2_turn : yX2_turn.cls = RX2 ∧ yX2_turn.cls ≠ "java/lang/invoke/MethodHandle" ∧ yX2_turn.cls ≠ "java/lang/invoke/VarHandle" ∧ (parseMethodDescriptor yX2_turn.desc).map (fun d => d.parameters.length) = some 3 := by decide +kernel
theorem oX2_turn : Cond.instanceMethod yX2_turn ∈ zT ∧ Cond.selects RX2 yX2_turn yX2_turn ∈ zT ∧ Cond.initialized RX2 ∈ zT ∧ Cond.code yX2_turn cX2_turn 5 (some .int) ∈ zT := ⟨wv_X2_turn, we_X2_turn, wi_X2, wk_X2_turn⟩
set_option maxRecDepth 100000 in
set_option maxHeartbeats 4000000 in
theorem kX2_turn (l : Launch) {g : zGeo} {z : Nat} (hg : zAd g z) {M M' : zM} {j : Nat} (hj : j < 10) {v1 : Int32} {v2 : Int32} {v3 : Int32} {r : Int32} (hF : fX2_turn M j v1 v2 v3 = some (r, M')) : Met l yX2_turn [.code yX2_turn cX2_turn 5 (some .int)] { frames := 1, cells := 0, slots := 0, locals := 21 } (zPc g M [.ref (g.1 1 j), .int v1, .int v2, .int v3]) (zQi g z r M') 0 0 (zS z) := by
  refine z_enter (cc := cX2_turn) (maxL := 5) (ret := (some .int)) (by decide) rfl (Nat.le_of_ble_eq_true rfl) ?_
  intro p e s m below meth c S hr hlk hK hR hS ls hl
  have S : CallFix p m c cX2_turn 5 s _ zT RX2 := S
  have hl : lv_has ls 5 [(0, .ref (g.1 1 j)), (1, .int v1), (2, .int v2), (3, .int v3)] := hl
  unfold fX2_turn at hF
  refine lv_bipush (v := 10) S.1 S.2.1 dX2_turn_0 (by decide) ?_
  refine lv_iload_n S.1 S.2.1 dX2_turn_2 rfl (lv_at hl 2 rfl) ?_
  refine lv_aload_n S.1 S.2.1 dX2_turn_3 rfl (lv_at hl 0 rfl) ?_
  refine z_get (k := 1) (i := j) (f := 7) (v := .ref (g.1 5 j)) S hK hR hj rfl rfl (by decide) wf_X2_21 rfl dX2_turn_4 ?_
  refine lv_iload_n S.1 S.2.1 dX2_turn_7 rfl (lv_at hl 1 rfl) ?_
  refine z_iald (k := 5) (i := j) (n := 6) S hK hR hF hj rfl dX2_turn_8 (fun hF => ?_)
  refine lv_isub S.1 S.2.1 dX2_turn_9 ?_
  refine z_mabs S hl (S.2.2.2.2 _ wm_X2_88) (S.2.2.2.2 _ ws_JM_abs) (S.2.2.2.2 _ wi_JM) (S.2.2.2.2 _ wk_abs) (Nat.le_of_ble_eq_true rfl) (Nat.le_of_ble_eq_true rfl) (Nat.zero_le _) (Nat.zero_le _) dX2_turn_10 ?_
  refine lv_imul S.1 S.2.1 dX2_turn_13 ?_
  refine lv_iload_n S.1 S.2.1 dX2_turn_14 rfl (lv_at hl 3 rfl) ?_
  refine lv_aload_n S.1 S.2.1 dX2_turn_15 rfl (lv_at hl 0 rfl) ?_
  refine z_get (k := 1) (i := j) (f := 8) (v := .ref (g.1 6 j)) S hK hR hj rfl rfl (by decide) wf_X2_24 rfl dX2_turn_16 ?_
  refine lv_iload_n S.1 S.2.1 dX2_turn_19 rfl (lv_at hl 1 rfl) ?_
  refine z_iald (k := 6) (i := j) (n := 6) S hK hR hF hj rfl dX2_turn_20 (fun hF => ?_)
  refine lv_isub S.1 S.2.1 dX2_turn_21 ?_
  refine z_mabs S hl (S.2.2.2.2 _ wm_X2_88) (S.2.2.2.2 _ ws_JM_abs) (S.2.2.2.2 _ wi_JM) (S.2.2.2.2 _ wk_abs) (Nat.le_of_ble_eq_true rfl) (Nat.le_of_ble_eq_true rfl) (Nat.zero_le _) (Nat.zero_le _) dX2_turn_22 ?_
  refine lv_iadd S.1 S.2.1 dX2_turn_25 ?_
  refine z_nm hF (fun v21 hF => ?_)
  refine lv_istore (lv' := [(4, .int v21), (0, .ref (g.1 1 j)), (1, .int v1), (2, .int v2), (3, .int v3)]) S.1 S.2.1 dX2_turn_26 hl (by decide) rfl (fun ls hl => ?_)
  refine lv_aload_n S.1 S.2.1 dX2_turn_28 rfl (lv_at hl 1 rfl) ?_
  refine z_get (k := 1) (i := j) (f := 7) (v := .ref (g.1 5 j)) S hK hR hj rfl rfl (by decide) wf_X2_21 rfl dX2_turn_29 ?_
  refine lv_iload_n S.1 S.2.1 dX2_turn_32 rfl (lv_at hl 2 rfl) ?_
  refine lv_iload_n S.1 S.2.1 dX2_turn_33 rfl (lv_at hl 3 rfl) ?_
  refine z_iast (k := 5) (i := j) (n := 6) S hg hK hR hS hF hj rfl dX2_turn_34 (fun H locs M22 hR hS hF => ?_)
  refine lv_aload_n S.1 S.2.1 dX2_turn_35 rfl (lv_at hl 1 rfl) ?_
  refine z_get (k := 1) (i := j) (f := 8) (v := .ref (g.1 6 j)) S hK hR hj rfl rfl (by decide) wf_X2_24 rfl dX2_turn_36 ?_
  refine lv_iload_n S.1 S.2.1 dX2_turn_39 rfl (lv_at hl 2 rfl) ?_
  refine lv_iload_n S.1 S.2.1 dX2_turn_40 rfl (lv_at hl 4 rfl) ?_
  refine z_iast (k := 6) (i := j) (n := 6) S hg hK hR hS hF hj rfl dX2_turn_41 (fun H locs M23 hR hS hF => ?_)
  refine lv_iload S.1 S.2.1 dX2_turn_42 (lv_at hl 0 rfl) ?_
  exact z_iret S hr hlk hR hS hF dX2_turn_44
theorem hX6_isWithin : yX6_isWithin.cls = RX6 ∧ yX6_isWithin.cls ≠ "java/lang/invoke/MethodHandle" ∧ yX6_isWithin.cls ≠ "java/lang/invoke/VarHandle" ∧ (parseMethodDescriptor yX6_isWithin.desc).map (fun d => d.parameters.length) = some 3 := by decide +kernel
theorem oX6_isWithin : Cond.static yX6_isWithin ∈ zT ∧ Cond.initialized RX6 ∈ zT ∧ Cond.code yX6_isWithin cX6_isWithin 3 (some .boolean) ∈ zT := ⟨ws_X6_isWithin, wi_X6, wk_X6_isWithin⟩
set_option maxRecDepth 100000 in
set_option maxHeartbeats 4000000 in
theorem kX6_isWithin (l : Launch) {g : zGeo} {z : Nat} (hg : zAd g z) {M M' : zM} {v0 : Int32} {v1 : Int32} {v2 : Int32} {r : Int32} (hF : fX6_isWithin M v0 v1 v2 = some (r, M')) : Met l yX6_isWithin [.code yX6_isWithin cX6_isWithin 3 (some .boolean)] { frames := 0, cells := 0, slots := 0, locals := 0 } (zPc g M [.int v0, .int v1, .int v2]) (zQi g z r M') 0 0 (zS z) := by
  refine z_enter (cc := cX6_isWithin) (maxL := 3) (ret := (some .boolean)) (by decide) rfl (Nat.le_of_ble_eq_true rfl) ?_
  intro p e s m below meth c S hr hlk hK hR hS ls hl
  have S : CallFix p m c cX6_isWithin 3 s _ zT RX6 := S
  have hl : lv_has ls 3 [(0, .int v0), (1, .int v1), (2, .int v2)] := hl
  unfold fX6_isWithin at hF
  refine lv_iload_n S.1 S.2.1 dX6_isWithin_0 rfl (lv_at hl 0 rfl) ?_
  refine lv_iload_n S.1 S.2.1 dX6_isWithin_1 rfl (lv_at hl 1 rfl) ?_
  refine lv_icmp_lt (tgt := 14) S.1 S.2.1 dX6_isWithin_2 (by decide) (fun hc21 => ?_) (fun hc21 => ?_)
  · replace hF := z_ct hF hc21
    refine lv_iconst (v := 0) S.1 S.2.1 dX6_isWithin_14 (by decide) ?_
    exact z_zretc S hr hlk hR hS (by decide) hF dX6_isWithin_15
  · replace hF := z_cf hF hc21
    refine lv_iload_n S.1 S.2.1 dX6_isWithin_5 rfl (lv_at hl 0 rfl) ?_
    refine lv_iload_n S.1 S.2.1 dX6_isWithin_6 rfl (lv_at hl 2 rfl) ?_
    refine lv_icmp_gt (tgt := 14) S.1 S.2.1 dX6_isWithin_7 (by decide) (fun hc22 => ?_) (fun hc22 => ?_)
    · replace hF := z_ct hF hc22
      refine lv_iconst (v := 0) S.1 S.2.1 dX6_isWithin_14 (by decide) ?_
      exact z_zretc S hr hlk hR hS (by decide) hF dX6_isWithin_15
    · replace hF := z_cf hF hc22
      refine lv_iconst (v := 1) S.1 S.2.1 dX6_isWithin_10 (by decide) ?_
      refine lv_goto (tgt := 15) S.1 S.2.1 dX6_isWithin_11 (by decide) ?_
      exact z_zretc S hr hlk hR hS (by decide) hF dX6_isWithin_15
theorem hX2_move : yX2_move.cls = RX2 ∧ yX2_move.cls ≠ "java/lang/invoke/MethodHandle" ∧ yX2_move.cls ≠ "java/lang/invoke/VarHandle" ∧ (parseMethodDescriptor yX2_move.desc).map (fun d => d.parameters.length) = some 1 := by decide +kernel
theorem oX2_move : Cond.instanceMethod yX2_move ∈ zT ∧ Cond.selects RX2 yX2_move yX2_move ∈ zT ∧ Cond.initialized RX2 ∈ zT ∧ Cond.code yX2_move cX2_move 4 none ∈ zT := ⟨wv_X2_move, we_X2_move, wi_X2, wk_X2_move⟩
set_option maxRecDepth 100000 in
set_option maxHeartbeats 4000000 in
theorem kX2_move (l : Launch) {g : zGeo} {z : Nat} (hg : zAd g z) {M M' : zM} {j : Nat} (hj : j < 10) {v1 : Int32} {r : Unit} (hF : fX2_move M j v1 = some (r, M')) : Met l yX2_move [.code yX2_move cX2_move 4 none] { frames := 1, cells := 0, slots := 0, locals := 22 } (zPc g M [.ref (g.1 1 j), .int v1]) (zQv g z M') 0 0 (zS z) := by
  refine z_enter (cc := cX2_move) (maxL := 4) (ret := none) (by decide) rfl (Nat.le_of_ble_eq_true rfl) ?_
  intro p e s m below meth c S hr hlk hK hR hS ls hl
  have S : CallFix p m c cX2_move 4 s _ zT RX2 := S
  have hl : lv_has ls 4 [(0, .ref (g.1 1 j)), (1, .int v1)] := hl
  unfold fX2_move at hF
  refine lv_aload_n S.1 S.2.1 dX2_move_0 rfl (lv_at hl 0 rfl) ?_
  refine z_get (k := 1) (i := j) (f := 5) (v := .ref (g.1 3 j)) S hK hR hj rfl rfl (by decide) wf_X2_15 rfl dX2_move_1 ?_
  refine lv_iload_n S.1 S.2.1 dX2_move_4 rfl (lv_at hl 1 rfl) ?_
  refine z_iald (k := 3) (i := j) (n := 6) S hK hR hF hj rfl dX2_move_5 (fun hF => ?_)
  refine lv_aload_n S.1 S.2.1 dX2_move_6 rfl (lv_at hl 0 rfl) ?_
  refine z_get (k := 1) (i := j) (f := 7) (v := .ref (g.1 5 j)) S hK hR hj rfl rfl (by decide) wf_X2_21 rfl dX2_move_7 ?_
  refine lv_iload_n S.1 S.2.1 dX2_move_10 rfl (lv_at hl 1 rfl) ?_
  refine z_iald (k := 5) (i := j) (n := 6) S hK hR hF hj rfl dX2_move_11 (fun hF => ?_)
  refine lv_iadd S.1 S.2.1 dX2_move_12 ?_
  refine z_nm hF (fun v21 hF => ?_)
  refine lv_istore_n (lv' := [(2, .int v21), (0, .ref (g.1 1 j)), (1, .int v1)]) S.1 S.2.1 dX2_move_13 rfl hl (by decide) rfl (fun ls hl => ?_)
  refine lv_iload_n S.1 S.2.1 dX2_move_14 rfl (lv_at hl 0 rfl) ?_
  refine lv_iconst (v := 0) S.1 S.2.1 dX2_move_15 (by decide) ?_
  refine lv_bipush (v := 63) S.1 S.2.1 dX2_move_16 (by decide) ?_
  refine z_goi hS hF (fun _ _ ho => va_runSN (n := 3) (As := [.int v21, .int 0, .int 63]) (rest := []) S (kX6_isWithin l hg ho) ⟨va_cnB 3 S.2.2.2.2 (zgN wk_X6_isWithin) rfl rfl rfl (hK.2.2 _ zNest_1) (S.2.2.2.2 _ wi_X6) hX6_isWithin.2 ⟨Nat.le_of_ble_eq_true rfl, Nat.le_of_ble_eq_true rfl⟩, S.2.2.2.2 _ ws_X6_isWithin, trivial⟩ ⟨zPc_blind, z_pre hK hR⟩ rfl rfl hl.1 rfl (lv_room (Nat.le_of_ble_eq_true rfl)) dX2_move_18 ⟨Nat.zero_le _, Nat.zero_le _⟩) (fun r23 M22 H locs hR hS hF => ?_)
  refine lv_if_eq (tgt := 34) S.1 S.2.1 dX2_move_21 (by decide) (fun hc24 => ?_) (fun hc24 => ?_)
  · replace hF := z_ct hF hc24
    refine lv_aload_n S.1 S.2.1 dX2_move_34 rfl (lv_at hl 1 rfl) ?_
    refine z_get (k := 1) (i := j) (f := 7) (v := .ref (g.1 5 j)) S hK hR hj rfl rfl (by decide) wf_X2_21 rfl dX2_move_35 ?_
    refine lv_iload_n S.1 S.2.1 dX2_move_38 rfl (lv_at hl 2 rfl) ?_
    refine lv_aload_n S.1 S.2.1 dX2_move_39 rfl (lv_at hl 1 rfl) ?_
    refine z_get (k := 1) (i := j) (f := 7) (v := .ref (g.1 5 j)) S hK hR hj rfl rfl (by decide) wf_X2_21 rfl dX2_move_40 ?_
    refine lv_iload_n S.1 S.2.1 dX2_move_43 rfl (lv_at hl 2 rfl) ?_
    refine z_iald (k := 5) (i := j) (n := 6) S hK hR hF hj rfl dX2_move_44 (fun hF => ?_)
    refine lv_ineg S.1 S.2.1 dX2_move_45 ?_
    refine z_iast (k := 5) (i := j) (n := 6) S hg hK hR hS hF hj rfl dX2_move_46 (fun H locs M25 hR hS hF => ?_)
    refine lv_aload_n S.1 S.2.1 dX2_move_47 rfl (lv_at hl 1 rfl) ?_
    refine z_get (k := 1) (i := j) (f := 6) (v := .ref (g.1 4 j)) S hK hR hj rfl rfl (by decide) wf_X2_18 rfl dX2_move_48 ?_
    refine lv_iload_n S.1 S.2.1 dX2_move_51 rfl (lv_at hl 2 rfl) ?_
    refine z_iald (k := 4) (i := j) (n := 6) S hK hR hF hj rfl dX2_move_52 (fun hF => ?_)
    refine lv_aload_n S.1 S.2.1 dX2_move_53 rfl (lv_at hl 1 rfl) ?_
    refine z_get (k := 1) (i := j) (f := 8) (v := .ref (g.1 6 j)) S hK hR hj rfl rfl (by decide) wf_X2_24 rfl dX2_move_54 ?_
    refine lv_iload_n S.1 S.2.1 dX2_move_57 rfl (lv_at hl 2 rfl) ?_
    refine z_iald (k := 6) (i := j) (n := 6) S hK hR hF hj rfl dX2_move_58 (fun hF => ?_)
    refine lv_iadd S.1 S.2.1 dX2_move_59 ?_
    refine z_nm hF (fun v26 hF => ?_)
    refine lv_istore_n (lv' := [(3, .int v26), (2, .int v21), (0, .ref (g.1 1 j)), (1, .int v1)]) S.1 S.2.1 dX2_move_60 rfl hl (by decide) rfl (fun ls hl => ?_)
    refine lv_iload_n S.1 S.2.1 dX2_move_61 rfl (lv_at hl 0 rfl) ?_
    refine lv_iconst (v := 1) S.1 S.2.1 dX2_move_62 (by decide) ?_
    refine lv_bipush (v := 47) S.1 S.2.1 dX2_move_63 (by decide) ?_
    refine z_goi hS hF (fun _ _ ho => va_runSN (n := 3) (As := [.int v26, .int 1, .int 47]) (rest := []) S (kX6_isWithin l hg ho) ⟨va_cnB 3 S.2.2.2.2 (zgN wk_X6_isWithin) rfl rfl rfl (hK.2.2 _ zNest_1) (S.2.2.2.2 _ wi_X6) hX6_isWithin.2 ⟨Nat.le_of_ble_eq_true rfl, Nat.le_of_ble_eq_true rfl⟩, S.2.2.2.2 _ ws_X6_isWithin, trivial⟩ ⟨zPc_blind, z_pre hK hR⟩ rfl rfl hl.1 rfl (lv_room (Nat.le_of_ble_eq_true rfl)) dX2_move_65 ⟨Nat.zero_le _, Nat.zero_le _⟩) (fun r28 M27 H locs hR hS hF => ?_)
    refine lv_if_eq (tgt := 81) S.1 S.2.1 dX2_move_68 (by decide) (fun hc29 => ?_) (fun hc29 => ?_)
    · replace hF := z_ct hF hc29
      refine lv_aload_n S.1 S.2.1 dX2_move_81 rfl (lv_at hl 2 rfl) ?_
      refine z_get (k := 1) (i := j) (f := 8) (v := .ref (g.1 6 j)) S hK hR hj rfl rfl (by decide) wf_X2_24 rfl dX2_move_82 ?_
      refine lv_iload_n S.1 S.2.1 dX2_move_85 rfl (lv_at hl 3 rfl) ?_
      refine lv_aload_n S.1 S.2.1 dX2_move_86 rfl (lv_at hl 2 rfl) ?_
      refine z_get (k := 1) (i := j) (f := 8) (v := .ref (g.1 6 j)) S hK hR hj rfl rfl (by decide) wf_X2_24 rfl dX2_move_87 ?_
      refine lv_iload_n S.1 S.2.1 dX2_move_90 rfl (lv_at hl 3 rfl) ?_
      refine z_iald (k := 6) (i := j) (n := 6) S hK hR hF hj rfl dX2_move_91 (fun hF => ?_)
      refine lv_ineg S.1 S.2.1 dX2_move_92 ?_
      refine z_iast (k := 6) (i := j) (n := 6) S hg hK hR hS hF hj rfl dX2_move_93 (fun H locs M30 hR hS hF => ?_)
      exact z_vret S hr hlk hR hS hF dX2_move_94
    · replace hF := z_cf hF hc29
      refine lv_aload_n S.1 S.2.1 dX2_move_71 rfl (lv_at hl 2 rfl) ?_
      refine z_get (k := 1) (i := j) (f := 6) (v := .ref (g.1 4 j)) S hK hR hj rfl rfl (by decide) wf_X2_18 rfl dX2_move_72 ?_
      refine lv_iload_n S.1 S.2.1 dX2_move_75 rfl (lv_at hl 3 rfl) ?_
      refine lv_iload_n S.1 S.2.1 dX2_move_76 rfl (lv_at hl 0 rfl) ?_
      refine z_iast (k := 4) (i := j) (n := 6) S hg hK hR hS hF hj rfl dX2_move_77 (fun H locs M31 hR hS hF => ?_)
      refine lv_goto (tgt := 94) S.1 S.2.1 dX2_move_78 (by decide) ?_
      exact z_vret S hr hlk hR hS hF dX2_move_94
  · replace hF := z_cf hF hc24
    refine lv_aload_n S.1 S.2.1 dX2_move_24 rfl (lv_at hl 1 rfl) ?_
    refine z_get (k := 1) (i := j) (f := 5) (v := .ref (g.1 3 j)) S hK hR hj rfl rfl (by decide) wf_X2_15 rfl dX2_move_25 ?_
    refine lv_iload_n S.1 S.2.1 dX2_move_28 rfl (lv_at hl 2 rfl) ?_
    refine lv_iload_n S.1 S.2.1 dX2_move_29 rfl (lv_at hl 0 rfl) ?_
    refine z_iast (k := 3) (i := j) (n := 6) S hg hK hR hS hF hj rfl dX2_move_30 (fun H locs M32 hR hS hF => ?_)
    refine lv_goto (tgt := 47) S.1 S.2.1 dX2_move_31 (by decide) ?_
    refine lv_aload_n S.1 S.2.1 dX2_move_47 rfl (lv_at hl 1 rfl) ?_
    refine z_get (k := 1) (i := j) (f := 6) (v := .ref (g.1 4 j)) S hK hR hj rfl rfl (by decide) wf_X2_18 rfl dX2_move_48 ?_
    refine lv_iload_n S.1 S.2.1 dX2_move_51 rfl (lv_at hl 2 rfl) ?_
    refine z_iald (k := 4) (i := j) (n := 6) S hK hR hF hj rfl dX2_move_52 (fun hF => ?_)
    refine lv_aload_n S.1 S.2.1 dX2_move_53 rfl (lv_at hl 1 rfl) ?_
    refine z_get (k := 1) (i := j) (f := 8) (v := .ref (g.1 6 j)) S hK hR hj rfl rfl (by decide) wf_X2_24 rfl dX2_move_54 ?_
    refine lv_iload_n S.1 S.2.1 dX2_move_57 rfl (lv_at hl 2 rfl) ?_
    refine z_iald (k := 6) (i := j) (n := 6) S hK hR hF hj rfl dX2_move_58 (fun hF => ?_)
    refine lv_iadd S.1 S.2.1 dX2_move_59 ?_
    refine z_nm hF (fun v33 hF => ?_)
    refine lv_istore_n (lv' := [(3, .int v33), (2, .int v21), (0, .ref (g.1 1 j)), (1, .int v1)]) S.1 S.2.1 dX2_move_60 rfl hl (by decide) rfl (fun ls hl => ?_)
    refine lv_iload_n S.1 S.2.1 dX2_move_61 rfl (lv_at hl 0 rfl) ?_
    refine lv_iconst (v := 1) S.1 S.2.1 dX2_move_62 (by decide) ?_
    refine lv_bipush (v := 47) S.1 S.2.1 dX2_move_63 (by decide) ?_
    refine z_goi hS hF (fun _ _ ho => va_runSN (n := 3) (As := [.int v33, .int 1, .int 47]) (rest := []) S (kX6_isWithin l hg ho) ⟨va_cnB 3 S.2.2.2.2 (zgN wk_X6_isWithin) rfl rfl rfl (hK.2.2 _ zNest_1) (S.2.2.2.2 _ wi_X6) hX6_isWithin.2 ⟨Nat.le_of_ble_eq_true rfl, Nat.le_of_ble_eq_true rfl⟩, S.2.2.2.2 _ ws_X6_isWithin, trivial⟩ ⟨zPc_blind, z_pre hK hR⟩ rfl rfl hl.1 rfl (lv_room (Nat.le_of_ble_eq_true rfl)) dX2_move_65 ⟨Nat.zero_le _, Nat.zero_le _⟩) (fun r35 M34 H locs hR hS hF => ?_)
    refine lv_if_eq (tgt := 81) S.1 S.2.1 dX2_move_68 (by decide) (fun hc36 => ?_) (fun hc36 => ?_)
    · replace hF := z_ct hF hc36
      refine lv_aload_n S.1 S.2.1 dX2_move_81 rfl (lv_at hl 2 rfl) ?_
      refine z_get (k := 1) (i := j) (f := 8) (v := .ref (g.1 6 j)) S hK hR hj rfl rfl (by decide) wf_X2_24 rfl dX2_move_82 ?_
      refine lv_iload_n S.1 S.2.1 dX2_move_85 rfl (lv_at hl 3 rfl) ?_
      refine lv_aload_n S.1 S.2.1 dX2_move_86 rfl (lv_at hl 2 rfl) ?_
      refine z_get (k := 1) (i := j) (f := 8) (v := .ref (g.1 6 j)) S hK hR hj rfl rfl (by decide) wf_X2_24 rfl dX2_move_87 ?_
      refine lv_iload_n S.1 S.2.1 dX2_move_90 rfl (lv_at hl 3 rfl) ?_
      refine z_iald (k := 6) (i := j) (n := 6) S hK hR hF hj rfl dX2_move_91 (fun hF => ?_)
      refine lv_ineg S.1 S.2.1 dX2_move_92 ?_
      refine z_iast (k := 6) (i := j) (n := 6) S hg hK hR hS hF hj rfl dX2_move_93 (fun H locs M37 hR hS hF => ?_)
      exact z_vret S hr hlk hR hS hF dX2_move_94
    · replace hF := z_cf hF hc36
      refine lv_aload_n S.1 S.2.1 dX2_move_71 rfl (lv_at hl 2 rfl) ?_
      refine z_get (k := 1) (i := j) (f := 6) (v := .ref (g.1 4 j)) S hK hR hj rfl rfl (by decide) wf_X2_18 rfl dX2_move_72 ?_
      refine lv_iload_n S.1 S.2.1 dX2_move_75 rfl (lv_at hl 3 rfl) ?_
      refine lv_iload_n S.1 S.2.1 dX2_move_76 rfl (lv_at hl 0 rfl) ?_
      refine z_iast (k := 4) (i := j) (n := 6) S hg hK hR hS hF hj rfl dX2_move_77 (fun H locs M38 hR hS hF => ?_)
      refine lv_goto (tgt := 94) S.1 S.2.1 dX2_move_78 (by decide) ?_
      exact z_vret S hr hlk hR hS hF dX2_move_94
theorem hX2_sliding : yX2_sliding.cls = RX2 ∧ yX2_sliding.cls ≠ "java/lang/invoke/MethodHandle" ∧ yX2_sliding.cls ≠ "java/lang/invoke/VarHandle" ∧ (parseMethodDescriptor yX2_sliding.desc).map (fun d => d.parameters.length) = some 2 := by decide +kernel
theorem oX2_sliding : Cond.instanceMethod yX2_sliding ∈ zT ∧ Cond.selects RX2 yX2_sliding yX2_sliding ∈ zT ∧ Cond.initialized RX2 ∈ zT ∧ Cond.code yX2_sliding cX2_sliding 3 (some .int) ∈ zT := ⟨wv_X2_sliding, we_X2_sliding, wi_X2, wk_X2_sliding⟩
set_option maxRecDepth 100000 in
set_option maxHeartbeats 4000000 in
theorem kX2_sliding (l : Launch) {g : zGeo} {z : Nat} (hg : zAd g z) {M M' : zM} {j : Nat} (hj : j < 10) {v1 : Int32} {v2 : Int32} {r : Int32} (hF : fX2_sliding M j v1 v2 = some (r, M')) : Met l yX2_sliding [.code yX2_sliding cX2_sliding 3 (some .int)] { frames := 1, cells := 0, slots := 0, locals := 21 } (zPc g M [.ref (g.1 1 j), .int v1, .int v2]) (zQi g z r M') 0 0 (zS z) := by
  refine z_enter (cc := cX2_sliding) (maxL := 3) (ret := (some .int)) (by decide) rfl (Nat.le_of_ble_eq_true rfl) ?_
  intro p e s m below meth c S hr hlk hK hR hS ls hl
  have S : CallFix p m c cX2_sliding 3 s _ zT RX2 := S
  have hl : lv_has ls 3 [(0, .ref (g.1 1 j)), (1, .int v1), (2, .int v2)] := hl
  unfold fX2_sliding at hF
  refine lv_iconst (v := 1) S.1 S.2.1 dX2_sliding_0 (by decide) ?_
  refine lv_aload_n S.1 S.2.1 dX2_sliding_1 rfl (lv_at hl 0 rfl) ?_
  refine z_get (k := 1) (i := j) (f := 7) (v := .ref (g.1 5 j)) S hK hR hj rfl rfl (by decide) wf_X2_21 rfl dX2_sliding_2 ?_
  refine lv_iload_n S.1 S.2.1 dX2_sliding_5 rfl (lv_at hl 1 rfl) ?_
  refine z_iald (k := 5) (i := j) (n := 6) S hK hR hF hj rfl dX2_sliding_6 (fun hF => ?_)
  refine lv_aload_n S.1 S.2.1 dX2_sliding_7 rfl (lv_at hl 0 rfl) ?_
  refine z_get (k := 1) (i := j) (f := 7) (v := .ref (g.1 5 j)) S hK hR hj rfl rfl (by decide) wf_X2_21 rfl dX2_sliding_8 ?_
  refine lv_iload_n S.1 S.2.1 dX2_sliding_11 rfl (lv_at hl 2 rfl) ?_
  refine z_iald (k := 5) (i := j) (n := 6) S hK hR hF hj rfl dX2_sliding_12 (fun hF => ?_)
  refine lv_isub S.1 S.2.1 dX2_sliding_13 ?_
  refine z_mabs S hl (S.2.2.2.2 _ wm_X2_88) (S.2.2.2.2 _ ws_JM_abs) (S.2.2.2.2 _ wi_JM) (S.2.2.2.2 _ wk_abs) (Nat.le_of_ble_eq_true rfl) (Nat.le_of_ble_eq_true rfl) (Nat.zero_le _) (Nat.zero_le _) dX2_sliding_14 ?_
  refine lv_iadd S.1 S.2.1 dX2_sliding_17 ?_
  refine lv_aload_n S.1 S.2.1 dX2_sliding_18 rfl (lv_at hl 0 rfl) ?_
  refine z_get (k := 1) (i := j) (f := 8) (v := .ref (g.1 6 j)) S hK hR hj rfl rfl (by decide) wf_X2_24 rfl dX2_sliding_19 ?_
  refine lv_iload_n S.1 S.2.1 dX2_sliding_22 rfl (lv_at hl 1 rfl) ?_
  refine z_iald (k := 6) (i := j) (n := 6) S hK hR hF hj rfl dX2_sliding_23 (fun hF => ?_)
  refine lv_aload_n S.1 S.2.1 dX2_sliding_24 rfl (lv_at hl 0 rfl) ?_
  refine z_get (k := 1) (i := j) (f := 8) (v := .ref (g.1 6 j)) S hK hR hj rfl rfl (by decide) wf_X2_24 rfl dX2_sliding_25 ?_
  refine lv_iload_n S.1 S.2.1 dX2_sliding_28 rfl (lv_at hl 2 rfl) ?_
  refine z_iald (k := 6) (i := j) (n := 6) S hK hR hF hj rfl dX2_sliding_29 (fun hF => ?_)
  refine lv_isub S.1 S.2.1 dX2_sliding_30 ?_
  refine z_mabs S hl (S.2.2.2.2 _ wm_X2_88) (S.2.2.2.2 _ ws_JM_abs) (S.2.2.2.2 _ wi_JM) (S.2.2.2.2 _ wk_abs) (Nat.le_of_ble_eq_true rfl) (Nat.le_of_ble_eq_true rfl) (Nat.zero_le _) (Nat.zero_le _) dX2_sliding_31 ?_
  refine lv_iadd S.1 S.2.1 dX2_sliding_34 ?_
  exact z_iret S hr hlk hR hS hF dX2_sliding_35
theorem hX2_rubbing : yX2_rubbing.cls = RX2 ∧ yX2_rubbing.cls ≠ "java/lang/invoke/MethodHandle" ∧ yX2_rubbing.cls ≠ "java/lang/invoke/VarHandle" ∧ (parseMethodDescriptor yX2_rubbing.desc).map (fun d => d.parameters.length) = some 3 := by decide +kernel
theorem oX2_rubbing : Cond.instanceMethod yX2_rubbing ∈ zT ∧ Cond.selects RX2 yX2_rubbing yX2_rubbing ∈ zT ∧ Cond.initialized RX2 ∈ zT ∧ Cond.code yX2_rubbing cX2_rubbing 5 (some .int) ∈ zT := ⟨wv_X2_rubbing, we_X2_rubbing, wi_X2, wk_X2_rubbing⟩
set_option maxRecDepth 100000 in
set_option maxHeartbeats 4000000 in
theorem kX2_rubbing (l : Launch) {g : zGeo} {z : Nat} (hg : zAd g z) {M M' : zM} {j : Nat} (hj : j < 10) {v1 : Int32} {v2 : Int32} {v3 : Int32} {r : Int32} (hF : fX2_rubbing M j v1 v2 v3 = some (r, M')) : Met l yX2_rubbing [.code yX2_rubbing cX2_rubbing 5 (some .int)] { frames := 2, cells := 0, slots := 0, locals := 43 } (zPc g M [.ref (g.1 1 j), .int v1, .int v2, .int v3]) (zQi g z r M') 0 0 (zS z) := by
  refine z_enter (cc := cX2_rubbing) (maxL := 5) (ret := (some .int)) (by decide) rfl (Nat.le_of_ble_eq_true rfl) ?_
  intro p e s m below meth c S hr hlk hK hR hS ls hl
  have S : CallFix p m c cX2_rubbing 5 s _ zT RX2 := S
  have hl : lv_has ls 5 [(0, .ref (g.1 1 j)), (1, .int v1), (2, .int v2), (3, .int v3)] := hl
  unfold fX2_rubbing at hF
  refine lv_aload_n S.1 S.2.1 dX2_rubbing_0 rfl (lv_at hl 0 rfl) ?_
  refine lv_iload_n S.1 S.2.1 dX2_rubbing_1 rfl (lv_at hl 1 rfl) ?_
  refine z_goi hS hF (fun _ _ ho => va_runV (C := RX2) (n := 1) (As := [.int v1]) (rest := []) S (kX2_has l hg hj ho) (cwV 1 S.2.2.2.2 (zgV wm_X2_80 oX2_has) rfl rfl rfl hX2_has ⟨Nat.le_of_ble_eq_true rfl, Nat.le_of_ble_eq_true rfl⟩) ⟨zPc_blind, z_recv hK hR hj rfl rfl, z_pre hK hR⟩ rfl rfl hl.1 rfl (lv_room (Nat.le_of_ble_eq_true rfl)) dX2_rubbing_2 ⟨Nat.zero_le _, Nat.zero_le _⟩) (fun r22 M21 H locs hR hS hF => ?_)
  refine lv_if_eq (tgt := 16) S.1 S.2.1 dX2_rubbing_5 (by decide) (fun hc23 => ?_) (fun hc23 => ?_)
  · replace hF := z_ct hF hc23
    refine lv_iconst (v := 0) S.1 S.2.1 dX2_rubbing_16 (by decide) ?_
    exact z_iret S hr hlk hR hS hF dX2_rubbing_17
  · replace hF := z_cf hF hc23
    refine lv_aload_n S.1 S.2.1 dX2_rubbing_8 rfl (lv_at hl 0 rfl) ?_
    refine lv_iload_n S.1 S.2.1 dX2_rubbing_9 rfl (lv_at hl 2 rfl) ?_
    refine z_goi hS hF (fun _ _ ho => va_runV (C := RX2) (n := 1) (As := [.int v2]) (rest := []) S (kX2_has l hg hj ho) (cwV 1 S.2.2.2.2 (zgV wm_X2_80 oX2_has) rfl rfl rfl hX2_has ⟨Nat.le_of_ble_eq_true rfl, Nat.le_of_ble_eq_true rfl⟩) ⟨zPc_blind, z_recv hK hR hj rfl rfl, z_pre hK hR⟩ rfl rfl hl.1 rfl (lv_room (Nat.le_of_ble_eq_true rfl)) dX2_rubbing_10 ⟨Nat.zero_le _, Nat.zero_le _⟩) (fun r25 M24 H locs hR hS hF => ?_)
    refine lv_if_ne (tgt := 18) S.1 S.2.1 dX2_rubbing_13 (by decide) (fun hc26 => ?_) (fun hc26 => ?_)
    · replace hF := z_cf hF hc26
      refine lv_aload_n S.1 S.2.1 dX2_rubbing_18 rfl (lv_at hl 0 rfl) ?_
      refine z_get (k := 1) (i := j) (f := 9) (v := .ref (g.1 7 j)) S hK hR hj rfl rfl (by decide) wf_X2_27 rfl dX2_rubbing_19 ?_
      refine lv_iload_n S.1 S.2.1 dX2_rubbing_22 rfl (lv_at hl 2 rfl) ?_
      refine z_iald (k := 7) (i := j) (n := 6) S hK hR hF hj rfl dX2_rubbing_23 (fun hF => ?_)
      refine lv_aload_n S.1 S.2.1 dX2_rubbing_24 rfl (lv_at hl 0 rfl) ?_
      refine lv_iload_n S.1 S.2.1 dX2_rubbing_25 rfl (lv_at hl 1 rfl) ?_
      refine lv_iload_n S.1 S.2.1 dX2_rubbing_26 rfl (lv_at hl 2 rfl) ?_
      refine z_goi hS hF (fun _ _ ho => va_runV (C := RX2) (n := 2) (As := [.int v1, .int v2]) (rest := [.int (M24 7 j (zN v2))]) S (kX2_sliding l hg hj ho) (cwV 2 S.2.2.2.2 (zgV wm_X2_96 oX2_sliding) rfl rfl rfl hX2_sliding ⟨Nat.le_of_ble_eq_true rfl, Nat.le_of_ble_eq_true rfl⟩) ⟨zPc_blind, z_recv hK hR hj rfl rfl, z_pre hK hR⟩ rfl rfl hl.1 rfl (lv_room (Nat.le_of_ble_eq_true rfl)) dX2_rubbing_27 ⟨Nat.zero_le _, Nat.zero_le _⟩) (fun r28 M27 H locs hR hS hF => ?_)
      refine lv_imul S.1 S.2.1 dX2_rubbing_30 ?_
      refine z_nm hF (fun v29 hF => ?_)
      refine lv_istore (lv' := [(4, .int v29), (0, .ref (g.1 1 j)), (1, .int v1), (2, .int v2), (3, .int v3)]) S.1 S.2.1 dX2_rubbing_31 hl (by decide) rfl (fun ls hl => ?_)
      refine lv_iload_n S.1 S.2.1 dX2_rubbing_33 rfl (lv_at hl 4 rfl) ?_
      refine lv_if_eq (tgt := 44) S.1 S.2.1 dX2_rubbing_34 (by decide) (fun hc30 => ?_) (fun hc30 => ?_)
      · replace hF := z_ct hF hc30
        refine lv_iload S.1 S.2.1 dX2_rubbing_44 (lv_at hl 0 rfl) ?_
        exact z_iret S hr hlk hR hS hF dX2_rubbing_46
      · replace hF := z_cf hF hc30
        refine lv_iconst (v := 2) S.1 S.2.1 dX2_rubbing_37 (by decide) ?_
        refine lv_iload S.1 S.2.1 dX2_rubbing_38 (lv_at hl 0 rfl) ?_
        refine lv_imul S.1 S.2.1 dX2_rubbing_40 ?_
        refine lv_goto (tgt := 46) S.1 S.2.1 dX2_rubbing_41 (by decide) ?_
        exact z_iret S hr hlk hR hS hF dX2_rubbing_46
    · replace hF := z_ct hF hc26
      refine lv_iconst (v := 0) S.1 S.2.1 dX2_rubbing_16 (by decide) ?_
      exact z_iret S hr hlk hR hS hF dX2_rubbing_17
theorem hX2_hasPlace : yX2_hasPlace.cls = RX2 ∧ yX2_hasPlace.cls ≠ "java/lang/invoke/MethodHandle" ∧ yX2_hasPlace.cls ≠ "java/lang/invoke/VarHandle" ∧ (parseMethodDescriptor yX2_hasPlace.desc).map (fun d => d.parameters.length) = some 2 := by decide +kernel
theorem oX2_hasPlace : Cond.instanceMethod yX2_hasPlace ∈ zT ∧ Cond.selects RX2 yX2_hasPlace yX2_hasPlace ∈ zT ∧ Cond.initialized RX2 ∈ zT ∧ Cond.code yX2_hasPlace cX2_hasPlace 3 (some .boolean) ∈ zT := ⟨wv_X2_hasPlace, we_X2_hasPlace, wi_X2, wk_X2_hasPlace⟩
set_option maxRecDepth 100000 in
set_option maxHeartbeats 4000000 in
theorem kX2_hasPlace (l : Launch) {g : zGeo} {z : Nat} (hg : zAd g z) {M M' : zM} {j : Nat} (hj : j < 10) {v1 : Int32} {v2 : Int32} {r : Int32} (hF : fX2_hasPlace M j v1 v2 = some (r, M')) : Met l yX2_hasPlace [.code yX2_hasPlace cX2_hasPlace 3 (some .boolean)] { frames := 1, cells := 0, slots := 0, locals := 22 } (zPc g M [.ref (g.1 1 j), .int v1, .int v2]) (zQi g z r M') 0 0 (zS z) := by
  refine z_enter (cc := cX2_hasPlace) (maxL := 3) (ret := (some .boolean)) (by decide) rfl (Nat.le_of_ble_eq_true rfl) ?_
  intro p e s m below meth c S hr hlk hK hR hS ls hl
  have S : CallFix p m c cX2_hasPlace 3 s _ zT RX2 := S
  have hl : lv_has ls 3 [(0, .ref (g.1 1 j)), (1, .int v1), (2, .int v2)] := hl
  unfold fX2_hasPlace at hF
  refine lv_aload_n S.1 S.2.1 dX2_hasPlace_0 rfl (lv_at hl 0 rfl) ?_
  refine lv_iload_n S.1 S.2.1 dX2_hasPlace_1 rfl (lv_at hl 1 rfl) ?_
  refine z_goi hS hF (fun _ _ ho => va_runV (C := RX2) (n := 1) (As := [.int v1]) (rest := []) S (kX2_has l hg hj ho) (cwV 1 S.2.2.2.2 (zgV wm_X2_80 oX2_has) rfl rfl rfl hX2_has ⟨Nat.le_of_ble_eq_true rfl, Nat.le_of_ble_eq_true rfl⟩) ⟨zPc_blind, z_recv hK hR hj rfl rfl, z_pre hK hR⟩ rfl rfl hl.1 rfl (lv_room (Nat.le_of_ble_eq_true rfl)) dX2_hasPlace_2 ⟨Nat.zero_le _, Nat.zero_le _⟩) (fun r22 M21 H locs hR hS hF => ?_)
  refine lv_if_eq (tgt := 22) S.1 S.2.1 dX2_hasPlace_5 (by decide) (fun hc23 => ?_) (fun hc23 => ?_)
  · replace hF := z_ct hF hc23
    refine lv_iconst (v := 0) S.1 S.2.1 dX2_hasPlace_22 (by decide) ?_
    exact z_zretc S hr hlk hR hS (by decide) hF dX2_hasPlace_23
  · replace hF := z_cf hF hc23
    refine lv_iload_n S.1 S.2.1 dX2_hasPlace_8 rfl (lv_at hl 2 rfl) ?_
    refine lv_iconst (v := 0) S.1 S.2.1 dX2_hasPlace_9 (by decide) ?_
    refine lv_bipush (v := 31) S.1 S.2.1 dX2_hasPlace_10 (by decide) ?_
    refine z_goi hS hF (fun _ _ ho => va_runSN (n := 3) (As := [.int v2, .int 0, .int 31]) (rest := []) S (kX6_isWithin l hg ho) ⟨va_cnB 3 S.2.2.2.2 (zgN wk_X6_isWithin) rfl rfl rfl (hK.2.2 _ zNest_1) (S.2.2.2.2 _ wi_X6) hX6_isWithin.2 ⟨Nat.le_of_ble_eq_true rfl, Nat.le_of_ble_eq_true rfl⟩, S.2.2.2.2 _ ws_X6_isWithin, trivial⟩ ⟨zPc_blind, z_pre hK hR⟩ rfl rfl hl.1 rfl (lv_room (Nat.le_of_ble_eq_true rfl)) dX2_hasPlace_12 ⟨Nat.zero_le _, Nat.zero_le _⟩) (fun r25 M24 H locs hR hS hF => ?_)
    refine lv_if_eq (tgt := 22) S.1 S.2.1 dX2_hasPlace_15 (by decide) (fun hc26 => ?_) (fun hc26 => ?_)
    · replace hF := z_ct hF hc26
      refine lv_iconst (v := 0) S.1 S.2.1 dX2_hasPlace_22 (by decide) ?_
      exact z_zretc S hr hlk hR hS (by decide) hF dX2_hasPlace_23
    · replace hF := z_cf hF hc26
      refine lv_iconst (v := 1) S.1 S.2.1 dX2_hasPlace_18 (by decide) ?_
      refine lv_goto (tgt := 23) S.1 S.2.1 dX2_hasPlace_19 (by decide) ?_
      exact z_zretc S hr hlk hR hS (by decide) hF dX2_hasPlace_23
theorem hX2_wearAt : yX2_wearAt.cls = RX2 ∧ yX2_wearAt.cls ≠ "java/lang/invoke/MethodHandle" ∧ yX2_wearAt.cls ≠ "java/lang/invoke/VarHandle" ∧ (parseMethodDescriptor yX2_wearAt.desc).map (fun d => d.parameters.length) = some 2 := by decide +kernel
theorem oX2_wearAt : Cond.instanceMethod yX2_wearAt ∈ zT ∧ Cond.selects RX2 yX2_wearAt yX2_wearAt ∈ zT ∧ Cond.initialized RX2 ∈ zT ∧ Cond.code yX2_wearAt cX2_wearAt 3 (some .int) ∈ zT := ⟨wv_X2_wearAt, we_X2_wearAt, wi_X2, wk_X2_wearAt⟩
set_option maxRecDepth 100000 in
set_option maxHeartbeats 4000000 in
theorem kX2_wearAt (l : Launch) {g : zGeo} {z : Nat} (hg : zAd g z) {M M' : zM} {j : Nat} (hj : j < 10) {v1 : Int32} {v2 : Int32} {r : Int32} (hF : fX2_wearAt M j v1 v2 = some (r, M')) : Met l yX2_wearAt [.code yX2_wearAt cX2_wearAt 3 (some .int)] { frames := 2, cells := 0, slots := 0, locals := 44 } (zPc g M [.ref (g.1 1 j), .int v1, .int v2]) (zQi g z r M') 0 0 (zS z) := by
  refine z_enter (cc := cX2_wearAt) (maxL := 3) (ret := (some .int)) (by decide) rfl (Nat.le_of_ble_eq_true rfl) ?_
  intro p e s m below meth c S hr hlk hK hR hS ls hl
  have S : CallFix p m c cX2_wearAt 3 s _ zT RX2 := S
  have hl : lv_has ls 3 [(0, .ref (g.1 1 j)), (1, .int v1), (2, .int v2)] := hl
  unfold fX2_wearAt at hF
  refine lv_aload_n S.1 S.2.1 dX2_wearAt_0 rfl (lv_at hl 0 rfl) ?_
  refine lv_iload_n S.1 S.2.1 dX2_wearAt_1 rfl (lv_at hl 1 rfl) ?_
  refine lv_iload_n S.1 S.2.1 dX2_wearAt_2 rfl (lv_at hl 2 rfl) ?_
  refine z_goi hS hF (fun _ _ ho => va_runV (C := RX2) (n := 2) (As := [.int v1, .int v2]) (rest := []) S (kX2_hasPlace l hg hj ho) (cwV 2 S.2.2.2.2 (zgV wm_X2_99 oX2_hasPlace) rfl rfl rfl hX2_hasPlace ⟨Nat.le_of_ble_eq_true rfl, Nat.le_of_ble_eq_true rfl⟩) ⟨zPc_blind, z_recv hK hR hj rfl rfl, z_pre hK hR⟩ rfl rfl hl.1 rfl (lv_room (Nat.le_of_ble_eq_true rfl)) dX2_wearAt_3 ⟨Nat.zero_le _, Nat.zero_le _⟩) (fun r22 M21 H locs hR hS hF => ?_)
  refine lv_if_eq (tgt := 23) S.1 S.2.1 dX2_wearAt_6 (by decide) (fun hc23 => ?_) (fun hc23 => ?_)
  · replace hF := z_ct hF hc23
    refine lv_iconst (v := 0) S.1 S.2.1 dX2_wearAt_23 (by decide) ?_
    exact z_iret S hr hlk hR hS hF dX2_wearAt_24
  · replace hF := z_cf hF hc23
    refine lv_aload_n S.1 S.2.1 dX2_wearAt_9 rfl (lv_at hl 0 rfl) ?_
    refine z_get (k := 1) (i := j) (f := 16) (v := .ref (g.1 14 j)) S hK hR hj rfl rfl (by decide) wf_X2_48 rfl dX2_wearAt_10 ?_
    refine lv_iload_n S.1 S.2.1 dX2_wearAt_13 rfl (lv_at hl 1 rfl) ?_
    refine lv_bipush (v := 32) S.1 S.2.1 dX2_wearAt_14 (by decide) ?_
    refine lv_imul S.1 S.2.1 dX2_wearAt_16 ?_
    refine lv_iload_n S.1 S.2.1 dX2_wearAt_17 rfl (lv_at hl 2 rfl) ?_
    refine lv_iadd S.1 S.2.1 dX2_wearAt_18 ?_
    refine z_iald (k := 14) (i := j) (n := 192) S hK hR hF hj rfl dX2_wearAt_19 (fun hF => ?_)
    refine lv_goto (tgt := 24) S.1 S.2.1 dX2_wearAt_20 (by decide) ?_
    exact z_iret S hr hlk hR hS hF dX2_wearAt_24
theorem hX2_wearDown : yX2_wearDown.cls = RX2 ∧ yX2_wearDown.cls ≠ "java/lang/invoke/MethodHandle" ∧ yX2_wearDown.cls ≠ "java/lang/invoke/VarHandle" ∧ (parseMethodDescriptor yX2_wearDown.desc).map (fun d => d.parameters.length) = some 3 := by decide +kernel
theorem oX2_wearDown : Cond.instanceMethod yX2_wearDown ∈ zT ∧ Cond.selects RX2 yX2_wearDown yX2_wearDown ∈ zT ∧ Cond.initialized RX2 ∈ zT ∧ Cond.code yX2_wearDown cX2_wearDown 4 none ∈ zT := ⟨wv_X2_wearDown, we_X2_wearDown, wi_X2, wk_X2_wearDown⟩
set_option maxRecDepth 100000 in
set_option maxHeartbeats 4000000 in
theorem kX2_wearDown (l : Launch) {g : zGeo} {z : Nat} (hg : zAd g z) {M M' : zM} {j : Nat} (hj : j < 10) {v1 : Int32} {v2 : Int32} {v3 : Int32} {r : Unit} (hF : fX2_wearDown M j v1 v2 v3 = some (r, M')) : Met l yX2_wearDown [.code yX2_wearDown cX2_wearDown 4 none] { frames := 2, cells := 0, slots := 0, locals := 44 } (zPc g M [.ref (g.1 1 j), .int v1, .int v2, .int v3]) (zQv g z M') 0 0 (zS z) := by
  refine z_enter (cc := cX2_wearDown) (maxL := 4) (ret := none) (by decide) rfl (Nat.le_of_ble_eq_true rfl) ?_
  intro p e s m below meth c S hr hlk hK hR hS ls hl
  have S : CallFix p m c cX2_wearDown 4 s _ zT RX2 := S
  have hl : lv_has ls 4 [(0, .ref (g.1 1 j)), (1, .int v1), (2, .int v2), (3, .int v3)] := hl
  unfold fX2_wearDown at hF
  refine lv_aload_n S.1 S.2.1 dX2_wearDown_0 rfl (lv_at hl 0 rfl) ?_
  refine lv_iload_n S.1 S.2.1 dX2_wearDown_1 rfl (lv_at hl 1 rfl) ?_
  refine lv_iload_n S.1 S.2.1 dX2_wearDown_2 rfl (lv_at hl 2 rfl) ?_
  refine z_goi hS hF (fun _ _ ho => va_runV (C := RX2) (n := 2) (As := [.int v1, .int v2]) (rest := []) S (kX2_hasPlace l hg hj ho) (cwV 2 S.2.2.2.2 (zgV wm_X2_99 oX2_hasPlace) rfl rfl rfl hX2_hasPlace ⟨Nat.le_of_ble_eq_true rfl, Nat.le_of_ble_eq_true rfl⟩) ⟨zPc_blind, z_recv hK hR hj rfl rfl, z_pre hK hR⟩ rfl rfl hl.1 rfl (lv_room (Nat.le_of_ble_eq_true rfl)) dX2_wearDown_3 ⟨Nat.zero_le _, Nat.zero_le _⟩) (fun r22 M21 H locs hR hS hF => ?_)
  refine lv_if_eq (tgt := 24) S.1 S.2.1 dX2_wearDown_6 (by decide) (fun hc23 => ?_) (fun hc23 => ?_)
  · replace hF := z_ct hF hc23
    exact z_vret S hr hlk hR hS hF dX2_wearDown_24
  · replace hF := z_cf hF hc23
    refine lv_aload_n S.1 S.2.1 dX2_wearDown_9 rfl (lv_at hl 0 rfl) ?_
    refine z_get (k := 1) (i := j) (f := 16) (v := .ref (g.1 14 j)) S hK hR hj rfl rfl (by decide) wf_X2_48 rfl dX2_wearDown_10 ?_
    refine lv_iload_n S.1 S.2.1 dX2_wearDown_13 rfl (lv_at hl 1 rfl) ?_
    refine lv_bipush (v := 32) S.1 S.2.1 dX2_wearDown_14 (by decide) ?_
    refine lv_imul S.1 S.2.1 dX2_wearDown_16 ?_
    refine lv_iload_n S.1 S.2.1 dX2_wearDown_17 rfl (lv_at hl 2 rfl) ?_
    refine lv_iadd S.1 S.2.1 dX2_wearDown_18 ?_
    refine lv_dup2_11 S.1 S.2.1 dX2_wearDown_19 rfl rfl ?_
    refine z_iald (k := 14) (i := j) (n := 192) S hK hR hF hj rfl dX2_wearDown_20 (fun hF => ?_)
    refine lv_iload_n S.1 S.2.1 dX2_wearDown_21 rfl (lv_at hl 3 rfl) ?_
    refine lv_iadd S.1 S.2.1 dX2_wearDown_22 ?_
    refine z_iast (k := 14) (i := j) (n := 192) S hg hK hR hS hF hj rfl dX2_wearDown_23 (fun H locs M24 hR hS hF => ?_)
    exact z_vret S hr hlk hR hS hF dX2_wearDown_24
theorem hX2_isWornThrough : yX2_isWornThrough.cls = RX2 ∧ yX2_isWornThrough.cls ≠ "java/lang/invoke/MethodHandle" ∧ yX2_isWornThrough.cls ≠ "java/lang/invoke/VarHandle" ∧ (parseMethodDescriptor yX2_isWornThrough.desc).map (fun d => d.parameters.length) = some 2 := by decide +kernel
theorem oX2_isWornThrough : Cond.instanceMethod yX2_isWornThrough ∈ zT ∧ Cond.selects RX2 yX2_isWornThrough yX2_isWornThrough ∈ zT ∧ Cond.initialized RX2 ∈ zT ∧ Cond.code yX2_isWornThrough cX2_isWornThrough 3 (some .boolean) ∈ zT := ⟨wv_X2_isWornThrough, we_X2_isWornThrough, wi_X2, wk_X2_isWornThrough⟩
set_option maxRecDepth 100000 in
set_option maxHeartbeats 4000000 in
theorem kX2_isWornThrough (l : Launch) {g : zGeo} {z : Nat} (hg : zAd g z) {M M' : zM} {j : Nat} (hj : j < 10) {v1 : Int32} {v2 : Int32} {r : Int32} (hF : fX2_isWornThrough M j v1 v2 = some (r, M')) : Met l yX2_isWornThrough [.code yX2_isWornThrough cX2_isWornThrough 3 (some .boolean)] { frames := 3, cells := 0, slots := 0, locals := 66 } (zPc g M [.ref (g.1 1 j), .int v1, .int v2]) (zQi g z r M') 0 0 (zS z) := by
  refine z_enter (cc := cX2_isWornThrough) (maxL := 3) (ret := (some .boolean)) (by decide) rfl (Nat.le_of_ble_eq_true rfl) ?_
  intro p e s m below meth c S hr hlk hK hR hS ls hl
  have S : CallFix p m c cX2_isWornThrough 3 s _ zT RX2 := S
  have hl : lv_has ls 3 [(0, .ref (g.1 1 j)), (1, .int v1), (2, .int v2)] := hl
  unfold fX2_isWornThrough at hF
  refine lv_aload_n S.1 S.2.1 dX2_isWornThrough_0 rfl (lv_at hl 0 rfl) ?_
  refine lv_iload_n S.1 S.2.1 dX2_isWornThrough_1 rfl (lv_at hl 1 rfl) ?_
  refine z_goi hS hF (fun _ _ ho => va_runV (C := RX2) (n := 1) (As := [.int v1]) (rest := []) S (kX2_has l hg hj ho) (cwV 1 S.2.2.2.2 (zgV wm_X2_80 oX2_has) rfl rfl rfl hX2_has ⟨Nat.le_of_ble_eq_true rfl, Nat.le_of_ble_eq_true rfl⟩) ⟨zPc_blind, z_recv hK hR hj rfl rfl, z_pre hK hR⟩ rfl rfl hl.1 rfl (lv_room (Nat.le_of_ble_eq_true rfl)) dX2_isWornThrough_2 ⟨Nat.zero_le _, Nat.zero_le _⟩) (fun r22 M21 H locs hR hS hF => ?_)
  refine lv_if_eq (tgt := 27) S.1 S.2.1 dX2_isWornThrough_5 (by decide) (fun hc23 => ?_) (fun hc23 => ?_)
  · replace hF := z_ct hF hc23
    refine lv_iconst (v := 0) S.1 S.2.1 dX2_isWornThrough_27 (by decide) ?_
    exact z_zretc S hr hlk hR hS (by decide) hF dX2_isWornThrough_28
  · replace hF := z_cf hF hc23
    refine lv_aload_n S.1 S.2.1 dX2_isWornThrough_8 rfl (lv_at hl 0 rfl) ?_
    refine lv_iload_n S.1 S.2.1 dX2_isWornThrough_9 rfl (lv_at hl 1 rfl) ?_
    refine lv_iload_n S.1 S.2.1 dX2_isWornThrough_10 rfl (lv_at hl 2 rfl) ?_
    refine z_goi hS hF (fun _ _ ho => va_runV (C := RX2) (n := 2) (As := [.int v1, .int v2]) (rest := []) S (kX2_wearAt l hg hj ho) (cwV 2 S.2.2.2.2 (zgV wm_X2_103 oX2_wearAt) rfl rfl rfl hX2_wearAt ⟨Nat.le_of_ble_eq_true rfl, Nat.le_of_ble_eq_true rfl⟩) ⟨zPc_blind, z_recv hK hR hj rfl rfl, z_pre hK hR⟩ rfl rfl hl.1 rfl (lv_room (Nat.le_of_ble_eq_true rfl)) dX2_isWornThrough_11 ⟨Nat.zero_le _, Nat.zero_le _⟩) (fun r25 M24 H locs hR hS hF => ?_)
    refine lv_aload_n S.1 S.2.1 dX2_isWornThrough_14 rfl (lv_at hl 0 rfl) ?_
    refine z_get (k := 1) (i := j) (f := 10) (v := .ref (g.1 8 j)) S hK hR hj rfl rfl (by decide) wf_X2_30 rfl dX2_isWornThrough_15 ?_
    refine lv_iload_n S.1 S.2.1 dX2_isWornThrough_18 rfl (lv_at hl 1 rfl) ?_
    refine z_iald (k := 8) (i := j) (n := 6) S hK hR hF hj rfl dX2_isWornThrough_19 (fun hF => ?_)
    refine lv_icmp_lt (tgt := 27) S.1 S.2.1 dX2_isWornThrough_20 (by decide) (fun hc26 => ?_) (fun hc26 => ?_)
    · replace hF := z_ct hF hc26
      refine lv_iconst (v := 0) S.1 S.2.1 dX2_isWornThrough_27 (by decide) ?_
      exact z_zretc S hr hlk hR hS (by decide) hF dX2_isWornThrough_28
    · replace hF := z_cf hF hc26
      refine lv_iconst (v := 1) S.1 S.2.1 dX2_isWornThrough_23 (by decide) ?_
      refine lv_goto (tgt := 28) S.1 S.2.1 dX2_isWornThrough_24 (by decide) ?_
      exact z_zretc S hr hlk hR hS (by decide) hF dX2_isWornThrough_28
theorem hX2_mostWornPlace : yX2_mostWornPlace.cls = RX2 ∧ yX2_mostWornPlace.cls ≠ "java/lang/invoke/MethodHandle" ∧ yX2_mostWornPlace.cls ≠ "java/lang/invoke/VarHandle" ∧ (parseMethodDescriptor yX2_mostWornPlace.desc).map (fun d => d.parameters.length) = some 1 := by decide +kernel
theorem oX2_mostWornPlace : Cond.instanceMethod yX2_mostWornPlace ∈ zT ∧ Cond.selects RX2 yX2_mostWornPlace yX2_mostWornPlace ∈ zT ∧ Cond.initialized RX2 ∈ zT ∧ Cond.code yX2_mostWornPlace cX2_mostWornPlace 4 (some .int) ∈ zT := ⟨wv_X2_mostWornPlace, we_X2_mostWornPlace, wi_X2, wk_X2_mostWornPlace⟩
set_option maxRecDepth 100000 in
set_option maxHeartbeats 4000000 in
theorem kX2_mostWornPlace (l : Launch) {g : zGeo} {z : Nat} (hg : zAd g z) {M M' : zM} {j : Nat} (hj : j < 10) {v1 : Int32} {r : Int32} (hF : fX2_mostWornPlace M j v1 = some (r, M')) : Met l yX2_mostWornPlace [.code yX2_mostWornPlace cX2_mostWornPlace 4 (some .int)] { frames := 3, cells := 0, slots := 0, locals := 66 } (zPc g M [.ref (g.1 1 j), .int v1]) (zQi g z r M') 0 0 (zS z) := by
  refine z_enter (cc := cX2_mostWornPlace) (maxL := 4) (ret := (some .int)) (by decide) rfl (Nat.le_of_ble_eq_true rfl) ?_
  intro p e s m below meth c S hr hlk hK hR hS ls hl
  have S : CallFix p m c cX2_mostWornPlace 4 s _ zT RX2 := S
  have hl : lv_has ls 4 [(0, .ref (g.1 1 j)), (1, .int v1)] := hl
  have L4 : ∀ (k : zM → Int32 → Int32 → Option (Int32 × zM)) (a1 : Int32), (∀ (M : zM) (a2 : Int32) (a3 : Int32) (H : Heap) (locs : List Loc), zR g M H → va_S (zS z) s.heap H locs → ∀ ls : Array Slot, lv_has ls 4 [(0, .ref (g.1 1 j)), (1, .int a1), (2, .int a2), (3, .int a3)] → k M a2 a3 = some (r, M') → W p l e { frames := 3, cells := 0, slots := 0, locals := 66 } s m ([.ref (g.1 1 j), .int v1] : List Value).toArray below meth c H locs 0 0 (MQ below (zQi g z r M') ([.ref (g.1 1 j), .int v1] : List Value).toArray s 0 0 (zS z)) (F0 m 33 ls [])) → ∀ (n : Nat) (M : zM) (a2 : Int32) (a3 : Int32) (H : Heap) (locs : List Loc), zR g M H → va_S (zS z) s.heap H locs → ∀ ls : Array Slot, lv_has ls 4 [(0, .ref (g.1 1 j)), (1, .int a1), (2, .int a2), (3, .int a3)] → fX2_mostWornPlace_L4 k j a1 n M a2 a3 = some (r, M') → W p l e { frames := 3, cells := 0, slots := 0, locals := 66 } s m ([.ref (g.1 1 j), .int v1] : List Value).toArray below meth c H locs 0 0 (MQ below (zQi g z r M') ([.ref (g.1 1 j), .int v1] : List Value).toArray s 0 0 (zS z)) (F0 m 4 ls []) := by
    intro k a1 hk n
    induction n with
    | zero =>
      intro M a2 a3 H locs hR hS ls hl hF
      cases hF
    | succ n ih =>
      intro M a2 a3 H locs hR hS ls hl hF
      unfold fX2_mostWornPlace_L4 at hF
      refine lv_iload_n S.1 S.2.1 dX2_mostWornPlace_4 rfl (lv_at hl 3 rfl) ?_
      refine lv_bipush (v := 32) S.1 S.2.1 dX2_mostWornPlace_5 (by decide) ?_
      refine lv_icmp_ge (tgt := 33) S.1 S.2.1 dX2_mostWornPlace_7 (by decide) (fun hc21 => ?_) (fun hc21 => ?_)
      · replace hF := z_ct hF hc21
        exact hk _ _ _ _ _ hR hS _ (lv_sub hl [0, 1, 2, 3] rfl) hF
      · replace hF := z_cf hF hc21
        refine lv_aload_n S.1 S.2.1 dX2_mostWornPlace_10 rfl (lv_at hl 0 rfl) ?_
        refine lv_iload_n S.1 S.2.1 dX2_mostWornPlace_11 rfl (lv_at hl 1 rfl) ?_
        refine lv_iload_n S.1 S.2.1 dX2_mostWornPlace_12 rfl (lv_at hl 3 rfl) ?_
        refine z_goi hS hF (fun _ _ ho => va_runV (C := RX2) (n := 2) (As := [.int a1, .int a3]) (rest := []) S (kX2_wearAt l hg hj ho) (cwV 2 S.2.2.2.2 (zgV wm_X2_103 oX2_wearAt) rfl rfl rfl hX2_wearAt ⟨Nat.le_of_ble_eq_true rfl, Nat.le_of_ble_eq_true rfl⟩) ⟨zPc_blind, z_recv hK hR hj rfl rfl, z_pre hK hR⟩ rfl rfl hl.1 rfl (lv_room (Nat.le_of_ble_eq_true rfl)) dX2_mostWornPlace_13 ⟨Nat.zero_le _, Nat.zero_le _⟩) (fun r23 M22 H locs hR hS hF => ?_)
        refine lv_aload_n S.1 S.2.1 dX2_mostWornPlace_16 rfl (lv_at hl 0 rfl) ?_
        refine lv_iload_n S.1 S.2.1 dX2_mostWornPlace_17 rfl (lv_at hl 1 rfl) ?_
        refine lv_iload_n S.1 S.2.1 dX2_mostWornPlace_18 rfl (lv_at hl 2 rfl) ?_
        refine z_goi hS hF (fun _ _ ho => va_runV (C := RX2) (n := 2) (As := [.int a1, .int a2]) (rest := [.int r23]) S (kX2_wearAt l hg hj ho) (cwV 2 S.2.2.2.2 (zgV wm_X2_103 oX2_wearAt) rfl rfl rfl hX2_wearAt ⟨Nat.le_of_ble_eq_true rfl, Nat.le_of_ble_eq_true rfl⟩) ⟨zPc_blind, z_recv hK hR hj rfl rfl, z_pre hK hR⟩ rfl rfl hl.1 rfl (lv_room (Nat.le_of_ble_eq_true rfl)) dX2_mostWornPlace_19 ⟨Nat.zero_le _, Nat.zero_le _⟩) (fun r25 M24 H locs hR hS hF => ?_)
        refine lv_icmp_le (tgt := 27) S.1 S.2.1 dX2_mostWornPlace_22 (by decide) (fun hc26 => ?_) (fun hc26 => ?_)
        · replace hF := z_ct hF hc26
          obtain ⟨v27, ev27, hF⟩ := zL_out hF
          refine lv_iinc (v := v27) (lv' := [(3, .int v27), (0, .ref (g.1 1 j)), (1, .int a1), (2, .int a2)]) S.1 S.2.1 dX2_mostWornPlace_27 hl (k := 3) rfl (by rw [← ev27]; rfl) (by decide) rfl (fun ls hl => ?_)
          refine lv_goto (tgt := 4) S.1 S.2.1 dX2_mostWornPlace_30 (by decide) ?_
          exact ih _ _ _ _ _ hR hS _ (lv_sub hl [1, 2, 3, 0] rfl) hF
        · replace hF := z_cf hF hc26
          refine lv_iload_n S.1 S.2.1 dX2_mostWornPlace_25 rfl (lv_at hl 3 rfl) ?_
          refine lv_istore_n (lv' := [(2, .int a3), (0, .ref (g.1 1 j)), (1, .int a1), (3, .int a3)]) S.1 S.2.1 dX2_mostWornPlace_26 rfl hl (by decide) rfl (fun ls hl => ?_)
          obtain ⟨v28, ev28, hF⟩ := zL_out hF
          refine lv_iinc (v := v28) (lv' := [(3, .int v28), (2, .int a3), (0, .ref (g.1 1 j)), (1, .int a1)]) S.1 S.2.1 dX2_mostWornPlace_27 hl (k := 3) rfl (by rw [← ev28]; rfl) (by decide) rfl (fun ls hl => ?_)
          refine lv_goto (tgt := 4) S.1 S.2.1 dX2_mostWornPlace_30 (by decide) ?_
          exact ih _ _ _ _ _ hR hS _ (lv_sub hl [2, 3, 1, 0] rfl) hF
  unfold fX2_mostWornPlace at hF
  refine lv_iconst (v := 0) S.1 S.2.1 dX2_mostWornPlace_0 (by decide) ?_
  refine lv_istore_n (lv' := [(2, .int 0), (0, .ref (g.1 1 j)), (1, .int v1)]) S.1 S.2.1 dX2_mostWornPlace_1 rfl hl (by decide) rfl (fun ls hl => ?_)
  refine lv_iconst (v := 1) S.1 S.2.1 dX2_mostWornPlace_2 (by decide) ?_
  refine lv_istore_n (lv' := [(3, .int 1), (2, .int 0), (0, .ref (g.1 1 j)), (1, .int v1)]) S.1 S.2.1 dX2_mostWornPlace_3 rfl hl (by decide) rfl (fun ls hl => ?_)
  refine L4 _ _ (fun M29 v30 v31 H locs hR hS ls hl hF => ?_) _ _ _ _ _ _ hR hS _ (lv_sub hl [2, 3, 1, 0] rfl) hF
  refine lv_iload_n S.1 S.2.1 dX2_mostWornPlace_33 rfl (lv_at hl 2 rfl) ?_
  exact z_iret S hr hlk hR hS hF dX2_mostWornPlace_34
theorem hX2_flyingKites : yX2_flyingKites.cls = RX2 ∧ yX2_flyingKites.cls ≠ "java/lang/invoke/MethodHandle" ∧ yX2_flyingKites.cls ≠ "java/lang/invoke/VarHandle" ∧ (parseMethodDescriptor yX2_flyingKites.desc).map (fun d => d.parameters.length) = some 0 := by decide +kernel
theorem oX2_flyingKites : Cond.instanceMethod yX2_flyingKites ∈ zT ∧ Cond.selects RX2 yX2_flyingKites yX2_flyingKites ∈ zT ∧ Cond.initialized RX2 ∈ zT ∧ Cond.code yX2_flyingKites cX2_flyingKites 3 (some .int) ∈ zT := ⟨wv_X2_flyingKites, we_X2_flyingKites, wi_X2, wk_X2_flyingKites⟩
set_option maxRecDepth 100000 in
set_option maxHeartbeats 4000000 in
theorem kX2_flyingKites (l : Launch) {g : zGeo} {z : Nat} (hg : zAd g z) {M M' : zM} {j : Nat} (hj : j < 10) {r : Int32} (hF : fX2_flyingKites M j = some (r, M')) : Met l yX2_flyingKites [.code yX2_flyingKites cX2_flyingKites 3 (some .int)] { frames := 2, cells := 0, slots := 0, locals := 42 } (zPc g M [.ref (g.1 1 j)]) (zQi g z r M') 0 0 (zS z) := by
  refine z_enter (cc := cX2_flyingKites) (maxL := 3) (ret := (some .int)) (by decide) rfl (Nat.le_of_ble_eq_true rfl) ?_
  intro p e s m below meth c S hr hlk hK hR hS ls hl
  have S : CallFix p m c cX2_flyingKites 3 s _ zT RX2 := S
  have hl : lv_has ls 3 [(0, .ref (g.1 1 j))] := hl
  have L4 : ∀ (k : zM → Int32 → Int32 → Option (Int32 × zM)) , (∀ (M : zM) (a1 : Int32) (a2 : Int32) (H : Heap) (locs : List Loc), zR g M H → va_S (zS z) s.heap H locs → ∀ ls : Array Slot, lv_has ls 3 [(0, .ref (g.1 1 j)), (1, .int a1), (2, .int a2)] → k M a1 a2 = some (r, M') → W p l e { frames := 2, cells := 0, slots := 0, locals := 42 } s m ([.ref (g.1 1 j)] : List Value).toArray below meth c H locs 0 0 (MQ below (zQi g z r M') ([.ref (g.1 1 j)] : List Value).toArray s 0 0 (zS z)) (F0 m 30 ls [])) → ∀ (n : Nat) (M : zM) (a1 : Int32) (a2 : Int32) (H : Heap) (locs : List Loc), zR g M H → va_S (zS z) s.heap H locs → ∀ ls : Array Slot, lv_has ls 3 [(0, .ref (g.1 1 j)), (1, .int a1), (2, .int a2)] → fX2_flyingKites_L4 k j n M a1 a2 = some (r, M') → W p l e { frames := 2, cells := 0, slots := 0, locals := 42 } s m ([.ref (g.1 1 j)] : List Value).toArray below meth c H locs 0 0 (MQ below (zQi g z r M') ([.ref (g.1 1 j)] : List Value).toArray s 0 0 (zS z)) (F0 m 4 ls []) := by
    intro k  hk n
    induction n with
    | zero =>
      intro M a1 a2 H locs hR hS ls hl hF
      cases hF
    | succ n ih =>
      intro M a1 a2 H locs hR hS ls hl hF
      unfold fX2_flyingKites_L4 at hF
      refine lv_iload_n S.1 S.2.1 dX2_flyingKites_4 rfl (lv_at hl 2 rfl) ?_
      refine lv_bipush (v := 6) S.1 S.2.1 dX2_flyingKites_5 (by decide) ?_
      refine lv_icmp_ge (tgt := 30) S.1 S.2.1 dX2_flyingKites_7 (by decide) (fun hc21 => ?_) (fun hc21 => ?_)
      · replace hF := z_ct hF hc21
        exact hk _ _ _ _ _ hR hS _ (lv_sub hl [0, 1, 2] rfl) hF
      · replace hF := z_cf hF hc21
        refine lv_aload_n S.1 S.2.1 dX2_flyingKites_10 rfl (lv_at hl 0 rfl) ?_
        refine lv_iload_n S.1 S.2.1 dX2_flyingKites_11 rfl (lv_at hl 2 rfl) ?_
        refine z_goi hS hF (fun _ _ ho => va_runV (C := RX2) (n := 1) (As := [.int a2]) (rest := []) S (kX2_isFlying l hg hj ho) (cwV 1 S.2.2.2.2 (zgV wm_X2_106 oX2_isFlying) rfl rfl rfl hX2_isFlying ⟨Nat.le_of_ble_eq_true rfl, Nat.le_of_ble_eq_true rfl⟩) ⟨zPc_blind, z_recv hK hR hj rfl rfl, z_pre hK hR⟩ rfl rfl hl.1 rfl (lv_room (Nat.le_of_ble_eq_true rfl)) dX2_flyingKites_12 ⟨Nat.zero_le _, Nat.zero_le _⟩) (fun r23 M22 H locs hR hS hF => ?_)
        refine lv_if_eq (tgt := 24) S.1 S.2.1 dX2_flyingKites_15 (by decide) (fun hc24 => ?_) (fun hc24 => ?_)
        · replace hF := z_ct hF hc24
          obtain ⟨v25, ev25, hF⟩ := zL_out hF
          refine lv_iinc (v := v25) (lv' := [(2, .int v25), (0, .ref (g.1 1 j)), (1, .int a1)]) S.1 S.2.1 dX2_flyingKites_24 hl (k := 2) rfl (by rw [← ev25]; rfl) (by decide) rfl (fun ls hl => ?_)
          refine lv_goto (tgt := 4) S.1 S.2.1 dX2_flyingKites_27 (by decide) ?_
          exact ih _ _ _ _ _ hR hS _ (lv_sub hl [1, 2, 0] rfl) hF
        · replace hF := z_cf hF hc24
          refine lv_iload_n S.1 S.2.1 dX2_flyingKites_18 rfl (lv_at hl 1 rfl) ?_
          refine lv_iconst (v := 1) S.1 S.2.1 dX2_flyingKites_19 (by decide) ?_
          refine lv_iload_n S.1 S.2.1 dX2_flyingKites_20 rfl (lv_at hl 2 rfl) ?_
          refine lv_ishl S.1 S.2.1 dX2_flyingKites_21 ?_
          refine lv_ior S.1 S.2.1 dX2_flyingKites_22 ?_
          refine z_nm hF (fun v26 hF => ?_)
          refine lv_istore_n (lv' := [(1, .int v26), (0, .ref (g.1 1 j)), (2, .int a2)]) S.1 S.2.1 dX2_flyingKites_23 rfl hl (by decide) rfl (fun ls hl => ?_)
          obtain ⟨v27, ev27, hF⟩ := zL_out hF
          refine lv_iinc (v := v27) (lv' := [(2, .int v27), (1, .int v26), (0, .ref (g.1 1 j))]) S.1 S.2.1 dX2_flyingKites_24 hl (k := 2) rfl (by rw [← ev27]; rfl) (by decide) rfl (fun ls hl => ?_)
          refine lv_goto (tgt := 4) S.1 S.2.1 dX2_flyingKites_27 (by decide) ?_
          exact ih _ _ _ _ _ hR hS _ (lv_sub hl [2, 1, 0] rfl) hF
  unfold fX2_flyingKites at hF
  refine lv_iconst (v := 0) S.1 S.2.1 dX2_flyingKites_0 (by decide) ?_
  refine lv_istore_n (lv' := [(1, .int 0), (0, .ref (g.1 1 j))]) S.1 S.2.1 dX2_flyingKites_1 rfl hl (by decide) rfl (fun ls hl => ?_)
  refine lv_iconst (v := 0) S.1 S.2.1 dX2_flyingKites_2 (by decide) ?_
  refine lv_istore_n (lv' := [(2, .int 0), (1, .int 0), (0, .ref (g.1 1 j))]) S.1 S.2.1 dX2_flyingKites_3 rfl hl (by decide) rfl (fun ls hl => ?_)
  refine L4 _ (fun M28 v29 v30 H locs hR hS ls hl hF => ?_) _ _ _ _ _ _ hR hS _ (lv_sub hl [2, 1, 0] rfl) hF
  refine lv_iload_n S.1 S.2.1 dX2_flyingKites_30 rfl (lv_at hl 1 rfl) ?_
  exact z_iret S hr hlk hR hS hF dX2_flyingKites_31
theorem hX2_leader : yX2_leader.cls = RX2 ∧ yX2_leader.cls ≠ "java/lang/invoke/MethodHandle" ∧ yX2_leader.cls ≠ "java/lang/invoke/VarHandle" ∧ (parseMethodDescriptor yX2_leader.desc).map (fun d => d.parameters.length) = some 0 := by decide +kernel
theorem oX2_leader : Cond.instanceMethod yX2_leader ∈ zT ∧ Cond.selects RX2 yX2_leader yX2_leader ∈ zT ∧ Cond.initialized RX2 ∈ zT ∧ Cond.code yX2_leader cX2_leader 3 (some .int) ∈ zT := ⟨wv_X2_leader, we_X2_leader, wi_X2, wk_X2_leader⟩
set_option maxRecDepth 100000 in
set_option maxHeartbeats 4000000 in
theorem kX2_leader (l : Launch) {g : zGeo} {z : Nat} (hg : zAd g z) {M M' : zM} {j : Nat} (hj : j < 10) {r : Int32} (hF : fX2_leader M j = some (r, M')) : Met l yX2_leader [.code yX2_leader cX2_leader 3 (some .int)] { frames := 1, cells := 0, slots := 0, locals := 21 } (zPc g M [.ref (g.1 1 j)]) (zQi g z r M') 0 0 (zS z) := by
  refine z_enter (cc := cX2_leader) (maxL := 3) (ret := (some .int)) (by decide) rfl (Nat.le_of_ble_eq_true rfl) ?_
  intro p e s m below meth c S hr hlk hK hR hS ls hl
  have S : CallFix p m c cX2_leader 3 s _ zT RX2 := S
  have hl : lv_has ls 3 [(0, .ref (g.1 1 j))] := hl
  have L14 : ∀ (k : zM → Int32 → Int32 → Option (Int32 × zM)) , (∀ (M : zM) (a1 : Int32) (a2 : Int32) (H : Heap) (locs : List Loc), zR g M H → va_S (zS z) s.heap H locs → ∀ ls : Array Slot, lv_has ls 3 [(0, .ref (g.1 1 j)), (1, .int a1), (2, .int a2)] → k M a1 a2 = some (r, M') → W p l e { frames := 1, cells := 0, slots := 0, locals := 21 } s m ([.ref (g.1 1 j)] : List Value).toArray below meth c H locs 0 0 (MQ below (zQi g z r M') ([.ref (g.1 1 j)] : List Value).toArray s 0 0 (zS z)) (F0 m 51 ls [])) → ∀ (n : Nat) (M : zM) (a1 : Int32) (a2 : Int32) (H : Heap) (locs : List Loc), zR g M H → va_S (zS z) s.heap H locs → ∀ ls : Array Slot, lv_has ls 3 [(0, .ref (g.1 1 j)), (1, .int a1), (2, .int a2)] → fX2_leader_L14 k j n M a1 a2 = some (r, M') → W p l e { frames := 1, cells := 0, slots := 0, locals := 21 } s m ([.ref (g.1 1 j)] : List Value).toArray below meth c H locs 0 0 (MQ below (zQi g z r M') ([.ref (g.1 1 j)] : List Value).toArray s 0 0 (zS z)) (F0 m 14 ls []) := by
    intro k  hk n
    induction n with
    | zero =>
      intro M a1 a2 H locs hR hS ls hl hF
      cases hF
    | succ n ih =>
      intro M a1 a2 H locs hR hS ls hl hF
      unfold fX2_leader_L14 at hF
      refine lv_iload_n S.1 S.2.1 dX2_leader_14 rfl (lv_at hl 2 rfl) ?_
      refine lv_bipush (v := 6) S.1 S.2.1 dX2_leader_15 (by decide) ?_
      refine lv_icmp_ge (tgt := 51) S.1 S.2.1 dX2_leader_17 (by decide) (fun hc22 => ?_) (fun hc22 => ?_)
      · replace hF := z_ct hF hc22
        exact hk _ _ _ _ _ hR hS _ (lv_sub hl [0, 1, 2] rfl) hF
      · replace hF := z_cf hF hc22
        refine lv_aload_n S.1 S.2.1 dX2_leader_20 rfl (lv_at hl 0 rfl) ?_
        refine lv_iload_n S.1 S.2.1 dX2_leader_21 rfl (lv_at hl 2 rfl) ?_
        refine z_goi hS hF (fun _ _ ho => va_runV (C := RX2) (n := 1) (As := [.int a2]) (rest := []) S (kX2_has l hg hj ho) (cwV 1 S.2.2.2.2 (zgV wm_X2_80 oX2_has) rfl rfl rfl hX2_has ⟨Nat.le_of_ble_eq_true rfl, Nat.le_of_ble_eq_true rfl⟩) ⟨zPc_blind, z_recv hK hR hj rfl rfl, z_pre hK hR⟩ rfl rfl hl.1 rfl (lv_room (Nat.le_of_ble_eq_true rfl)) dX2_leader_22 ⟨Nat.zero_le _, Nat.zero_le _⟩) (fun r24 M23 H locs hR hS hF => ?_)
        refine lv_if_eq (tgt := 45) S.1 S.2.1 dX2_leader_25 (by decide) (fun hc25 => ?_) (fun hc25 => ?_)
        · replace hF := z_ct hF hc25
          obtain ⟨v26, ev26, hF⟩ := zL_out hF
          refine lv_iinc (v := v26) (lv' := [(2, .int v26), (0, .ref (g.1 1 j)), (1, .int a1)]) S.1 S.2.1 dX2_leader_45 hl (k := 2) rfl (by rw [← ev26]; rfl) (by decide) rfl (fun ls hl => ?_)
          refine lv_goto (tgt := 14) S.1 S.2.1 dX2_leader_48 (by decide) ?_
          exact ih _ _ _ _ _ hR hS _ (lv_sub hl [1, 2, 0] rfl) hF
        · replace hF := z_cf hF hc25
          refine lv_aload_n S.1 S.2.1 dX2_leader_28 rfl (lv_at hl 0 rfl) ?_
          refine z_get (k := 1) (i := j) (f := 11) (v := .ref (g.1 9 j)) S hK hR hj rfl rfl (by decide) wf_X2_33 rfl dX2_leader_29 ?_
          refine lv_iload_n S.1 S.2.1 dX2_leader_32 rfl (lv_at hl 2 rfl) ?_
          refine z_iald (k := 9) (i := j) (n := 6) S hK hR hF hj rfl dX2_leader_33 (fun hF => ?_)
          refine lv_aload_n S.1 S.2.1 dX2_leader_34 rfl (lv_at hl 0 rfl) ?_
          refine z_get (k := 1) (i := j) (f := 11) (v := .ref (g.1 9 j)) S hK hR hj rfl rfl (by decide) wf_X2_33 rfl dX2_leader_35 ?_
          refine lv_iload_n S.1 S.2.1 dX2_leader_38 rfl (lv_at hl 1 rfl) ?_
          refine z_iald (k := 9) (i := j) (n := 6) S hK hR hF hj rfl dX2_leader_39 (fun hF => ?_)
          refine lv_icmp_le (tgt := 45) S.1 S.2.1 dX2_leader_40 (by decide) (fun hc27 => ?_) (fun hc27 => ?_)
          · replace hF := z_ct hF hc27
            obtain ⟨v28, ev28, hF⟩ := zL_out hF
            refine lv_iinc (v := v28) (lv' := [(2, .int v28), (0, .ref (g.1 1 j)), (1, .int a1)]) S.1 S.2.1 dX2_leader_45 hl (k := 2) rfl (by rw [← ev28]; rfl) (by decide) rfl (fun ls hl => ?_)
            refine lv_goto (tgt := 14) S.1 S.2.1 dX2_leader_48 (by decide) ?_
            exact ih _ _ _ _ _ hR hS _ (lv_sub hl [1, 2, 0] rfl) hF
          · replace hF := z_cf hF hc27
            refine lv_iload_n S.1 S.2.1 dX2_leader_43 rfl (lv_at hl 2 rfl) ?_
            refine lv_istore_n (lv' := [(1, .int a2), (0, .ref (g.1 1 j)), (2, .int a2)]) S.1 S.2.1 dX2_leader_44 rfl hl (by decide) rfl (fun ls hl => ?_)
            obtain ⟨v29, ev29, hF⟩ := zL_out hF
            refine lv_iinc (v := v29) (lv' := [(2, .int v29), (1, .int a2), (0, .ref (g.1 1 j))]) S.1 S.2.1 dX2_leader_45 hl (k := 2) rfl (by rw [← ev29]; rfl) (by decide) rfl (fun ls hl => ?_)
            refine lv_goto (tgt := 14) S.1 S.2.1 dX2_leader_48 (by decide) ?_
            exact ih _ _ _ _ _ hR hS _ (lv_sub hl [2, 1, 0] rfl) hF
  unfold fX2_leader at hF
  refine lv_aload_n S.1 S.2.1 dX2_leader_0 rfl (lv_at hl 0 rfl) ?_
  refine z_get (k := 1) (i := j) (f := 0) (v := .int (M 1 j 0)) S hK hR hj rfl rfl (by decide) wf_X2_51 rfl dX2_leader_1 ?_
  refine lv_if_ne (tgt := 10) S.1 S.2.1 dX2_leader_4 (by decide) (fun hc21 => ?_) (fun hc21 => ?_)
  · replace hF := z_cf hF hc21
    refine lv_iconst (v := 0) S.1 S.2.1 dX2_leader_10 (by decide) ?_
    refine lv_istore_n (lv' := [(1, .int 0), (0, .ref (g.1 1 j))]) S.1 S.2.1 dX2_leader_11 rfl hl (by decide) rfl (fun ls hl => ?_)
    refine lv_iconst (v := 1) S.1 S.2.1 dX2_leader_12 (by decide) ?_
    refine lv_istore_n (lv' := [(2, .int 1), (1, .int 0), (0, .ref (g.1 1 j))]) S.1 S.2.1 dX2_leader_13 rfl hl (by decide) rfl (fun ls hl => ?_)
    refine L14 _ (fun M30 v31 v32 H locs hR hS ls hl hF => ?_) _ _ _ _ _ _ hR hS _ (lv_sub hl [2, 1, 0] rfl) hF
    refine lv_iload_n S.1 S.2.1 dX2_leader_51 rfl (lv_at hl 1 rfl) ?_
    exact z_iret S hr hlk hR hS hF dX2_leader_52
  · replace hF := z_ct hF hc21
    refine lv_bipush (v := (-6)) S.1 S.2.1 dX2_leader_7 (by decide) ?_
    exact z_iret S hr hlk hR hS hF dX2_leader_9
theorem hX2_allPoints : yX2_allPoints.cls = RX2 ∧ yX2_allPoints.cls ≠ "java/lang/invoke/MethodHandle" ∧ yX2_allPoints.cls ≠ "java/lang/invoke/VarHandle" ∧ (parseMethodDescriptor yX2_allPoints.desc).map (fun d => d.parameters.length) = some 0 := by decide +kernel
theorem oX2_allPoints : Cond.instanceMethod yX2_allPoints ∈ zT ∧ Cond.selects RX2 yX2_allPoints yX2_allPoints ∈ zT ∧ Cond.initialized RX2 ∈ zT ∧ Cond.code yX2_allPoints cX2_allPoints 3 (some .int) ∈ zT := ⟨wv_X2_allPoints, we_X2_allPoints, wi_X2, wk_X2_allPoints⟩
set_option maxRecDepth 100000 in
set_option maxHeartbeats 4000000 in
theorem kX2_allPoints (l : Launch) {g : zGeo} {z : Nat} (hg : zAd g z) {M M' : zM} {j : Nat} (hj : j < 10) {r : Int32} (hF : fX2_allPoints M j = some (r, M')) : Met l yX2_allPoints [.code yX2_allPoints cX2_allPoints 3 (some .int)] { frames := 1, cells := 0, slots := 0, locals := 21 } (zPc g M [.ref (g.1 1 j)]) (zQi g z r M') 0 0 (zS z) := by
  refine z_enter (cc := cX2_allPoints) (maxL := 3) (ret := (some .int)) (by decide) rfl (Nat.le_of_ble_eq_true rfl) ?_
  intro p e s m below meth c S hr hlk hK hR hS ls hl
  have S : CallFix p m c cX2_allPoints 3 s _ zT RX2 := S
  have hl : lv_has ls 3 [(0, .ref (g.1 1 j))] := hl
  have L4 : ∀ (k : zM → Int32 → Int32 → Option (Int32 × zM)) , (∀ (M : zM) (a1 : Int32) (a2 : Int32) (H : Heap) (locs : List Loc), zR g M H → va_S (zS z) s.heap H locs → ∀ ls : Array Slot, lv_has ls 3 [(0, .ref (g.1 1 j)), (1, .int a1), (2, .int a2)] → k M a1 a2 = some (r, M') → W p l e { frames := 1, cells := 0, slots := 0, locals := 21 } s m ([.ref (g.1 1 j)] : List Value).toArray below meth c H locs 0 0 (MQ below (zQi g z r M') ([.ref (g.1 1 j)] : List Value).toArray s 0 0 (zS z)) (F0 m 33 ls [])) → ∀ (n : Nat) (M : zM) (a1 : Int32) (a2 : Int32) (H : Heap) (locs : List Loc), zR g M H → va_S (zS z) s.heap H locs → ∀ ls : Array Slot, lv_has ls 3 [(0, .ref (g.1 1 j)), (1, .int a1), (2, .int a2)] → fX2_allPoints_L4 k j n M a1 a2 = some (r, M') → W p l e { frames := 1, cells := 0, slots := 0, locals := 21 } s m ([.ref (g.1 1 j)] : List Value).toArray below meth c H locs 0 0 (MQ below (zQi g z r M') ([.ref (g.1 1 j)] : List Value).toArray s 0 0 (zS z)) (F0 m 4 ls []) := by
    intro k  hk n
    induction n with
    | zero =>
      intro M a1 a2 H locs hR hS ls hl hF
      cases hF
    | succ n ih =>
      intro M a1 a2 H locs hR hS ls hl hF
      unfold fX2_allPoints_L4 at hF
      refine lv_iload_n S.1 S.2.1 dX2_allPoints_4 rfl (lv_at hl 2 rfl) ?_
      refine lv_bipush (v := 6) S.1 S.2.1 dX2_allPoints_5 (by decide) ?_
      refine lv_icmp_ge (tgt := 33) S.1 S.2.1 dX2_allPoints_7 (by decide) (fun hc21 => ?_) (fun hc21 => ?_)
      · replace hF := z_ct hF hc21
        exact hk _ _ _ _ _ hR hS _ (lv_sub hl [0, 1, 2] rfl) hF
      · replace hF := z_cf hF hc21
        refine lv_aload_n S.1 S.2.1 dX2_allPoints_10 rfl (lv_at hl 0 rfl) ?_
        refine lv_iload_n S.1 S.2.1 dX2_allPoints_11 rfl (lv_at hl 2 rfl) ?_
        refine z_goi hS hF (fun _ _ ho => va_runV (C := RX2) (n := 1) (As := [.int a2]) (rest := []) S (kX2_has l hg hj ho) (cwV 1 S.2.2.2.2 (zgV wm_X2_80 oX2_has) rfl rfl rfl hX2_has ⟨Nat.le_of_ble_eq_true rfl, Nat.le_of_ble_eq_true rfl⟩) ⟨zPc_blind, z_recv hK hR hj rfl rfl, z_pre hK hR⟩ rfl rfl hl.1 rfl (lv_room (Nat.le_of_ble_eq_true rfl)) dX2_allPoints_12 ⟨Nat.zero_le _, Nat.zero_le _⟩) (fun r23 M22 H locs hR hS hF => ?_)
        refine lv_if_eq (tgt := 27) S.1 S.2.1 dX2_allPoints_15 (by decide) (fun hc24 => ?_) (fun hc24 => ?_)
        · replace hF := z_ct hF hc24
          obtain ⟨v25, ev25, hF⟩ := zL_out hF
          refine lv_iinc (v := v25) (lv' := [(2, .int v25), (0, .ref (g.1 1 j)), (1, .int a1)]) S.1 S.2.1 dX2_allPoints_27 hl (k := 2) rfl (by rw [← ev25]; rfl) (by decide) rfl (fun ls hl => ?_)
          refine lv_goto (tgt := 4) S.1 S.2.1 dX2_allPoints_30 (by decide) ?_
          exact ih _ _ _ _ _ hR hS _ (lv_sub hl [1, 2, 0] rfl) hF
        · replace hF := z_cf hF hc24
          refine lv_iload_n S.1 S.2.1 dX2_allPoints_18 rfl (lv_at hl 1 rfl) ?_
          refine lv_aload_n S.1 S.2.1 dX2_allPoints_19 rfl (lv_at hl 0 rfl) ?_
          refine z_get (k := 1) (i := j) (f := 11) (v := .ref (g.1 9 j)) S hK hR hj rfl rfl (by decide) wf_X2_33 rfl dX2_allPoints_20 ?_
          refine lv_iload_n S.1 S.2.1 dX2_allPoints_23 rfl (lv_at hl 2 rfl) ?_
          refine z_iald (k := 9) (i := j) (n := 6) S hK hR hF hj rfl dX2_allPoints_24 (fun hF => ?_)
          refine lv_iadd S.1 S.2.1 dX2_allPoints_25 ?_
          refine z_nm hF (fun v26 hF => ?_)
          refine lv_istore_n (lv' := [(1, .int v26), (0, .ref (g.1 1 j)), (2, .int a2)]) S.1 S.2.1 dX2_allPoints_26 rfl hl (by decide) rfl (fun ls hl => ?_)
          obtain ⟨v27, ev27, hF⟩ := zL_out hF
          refine lv_iinc (v := v27) (lv' := [(2, .int v27), (1, .int v26), (0, .ref (g.1 1 j))]) S.1 S.2.1 dX2_allPoints_27 hl (k := 2) rfl (by rw [← ev27]; rfl) (by decide) rfl (fun ls hl => ?_)
          refine lv_goto (tgt := 4) S.1 S.2.1 dX2_allPoints_30 (by decide) ?_
          exact ih _ _ _ _ _ hR hS _ (lv_sub hl [2, 1, 0] rfl) hF
  unfold fX2_allPoints at hF
  refine lv_iconst (v := 0) S.1 S.2.1 dX2_allPoints_0 (by decide) ?_
  refine lv_istore_n (lv' := [(1, .int 0), (0, .ref (g.1 1 j))]) S.1 S.2.1 dX2_allPoints_1 rfl hl (by decide) rfl (fun ls hl => ?_)
  refine lv_iconst (v := 0) S.1 S.2.1 dX2_allPoints_2 (by decide) ?_
  refine lv_istore_n (lv' := [(2, .int 0), (1, .int 0), (0, .ref (g.1 1 j))]) S.1 S.2.1 dX2_allPoints_3 rfl hl (by decide) rfl (fun ls hl => ?_)
  refine L4 _ (fun M28 v29 v30 H locs hR hS ls hl hF => ?_) _ _ _ _ _ _ hR hS _ (lv_sub hl [2, 1, 0] rfl) hF
  refine lv_iload_n S.1 S.2.1 dX2_allPoints_33 rfl (lv_at hl 1 rfl) ?_
  exact z_iret S hr hlk hR hS hF dX2_allPoints_34
