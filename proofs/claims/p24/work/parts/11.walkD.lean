theorem hL_low : yL_low.cls = RL ∧ yL_low.cls ≠ "java/lang/invoke/MethodHandle" ∧ yL_low.cls ≠ "java/lang/invoke/VarHandle" ∧ (parseMethodDescriptor yL_low.desc).map (fun d => d.parameters.length) = some 2 := by decide +kernel
theorem oL_low : Cond.static yL_low ∈ zT ∧ Cond.initialized RL ∈ zT ∧ Cond.code yL_low cL_low 2 (some .int) ∈ zT := ⟨ws_L_low, wi_L, wk_L_low⟩
set_option maxRecDepth 100000 in
set_option maxHeartbeats 4000000 in
theorem kL_low (l : Launch) {g : zGeo} {z : Nat} (hg : zAd g z) {M M' : zM} {v0 : Int32} {v1 : Int32} {r : Int32} (hF : fL_low M v0 v1 = some (r, M')) : Met l yL_low [.code yL_low cL_low 2 (some .int)] { frames := 0, cells := 0, slots := 0, locals := 0 } (zPc g M [.int v0, .int v1]) (zQi g z r M') 0 0 (zS z) := by
  refine z_enter (cc := cL_low) (maxL := 2) (ret := (some .int)) (by decide) rfl (Nat.le_of_ble_eq_true rfl) ?_
  intro p e s m below meth c S hr hlk hK hR hS ls hl
  have S : CallFix p m c cL_low 2 s _ zT RL := S
  have hl : lv_has ls 2 [(0, .int v0), (1, .int v1)] := hl
  unfold fL_low at hF
  refine lv_iload_n S.1 S.2.1 dL_low_0 rfl (lv_at hl 0 rfl) ?_
  refine lv_ldc (v := 2147483647) S.1 S.2.1 S.2.2.2.1 (S.2.2.2.2 _ wq_L_9) dL_low_1 ?_
  refine lv_iand S.1 S.2.1 dL_low_3 ?_
  refine lv_iload_n S.1 S.2.1 dL_low_4 rfl (lv_at hl 1 rfl) ?_
  obtain ⟨hne, hF⟩ := zV_out hF
  refine z_irem S.1 S.2.1 dL_low_5 hne ?_
  exact z_iret S hr hlk hR hS hF dL_low_6
theorem hL_worn : yL_worn.cls = RL ∧ yL_worn.cls ≠ "java/lang/invoke/MethodHandle" ∧ yL_worn.cls ≠ "java/lang/invoke/VarHandle" ∧ (parseMethodDescriptor yL_worn.desc).map (fun d => d.parameters.length) = some 4 := by decide +kernel
theorem oL_worn : Cond.static yL_worn ∈ zT ∧ Cond.initialized RL ∈ zT ∧ Cond.code yL_worn cL_worn 4 (some .int) ∈ zT := ⟨ws_L_worn, wi_L, wk_L_worn⟩
set_option maxRecDepth 100000 in
set_option maxHeartbeats 4000000 in
theorem kL_worn (l : Launch) {g : zGeo} {z : Nat} (hg : zAd g z) {M M' : zM} {v0 : Int32} {v1 : Int32} {kf2 : Nat} (hk2 : 0 < zcnt kf2) (ha2 : zarr kf2 = some (0, 64)) {kf3 : Nat} (hk3 : 0 < zcnt kf3) (ha3 : zarr kf3 = some (0, 64)) {r : Int32} (hF : fL_worn M v0 v1 kf2 kf3 = some (r, M')) : Met l yL_worn [.code yL_worn cL_worn 4 (some .int)] { frames := 0, cells := 0, slots := 0, locals := 0 } (zPc g M [.int v0, .int v1, .ref (g.1 kf2 0), .ref (g.1 kf3 0)]) (zQi g z r M') 0 0 (zS z) := by
  refine z_enter (cc := cL_worn) (maxL := 4) (ret := (some .int)) (by decide) rfl (Nat.le_of_ble_eq_true rfl) ?_
  intro p e s m below meth c S hr hlk hK hR hS ls hl
  have S : CallFix p m c cL_worn 4 s _ zT RL := S
  have hl : lv_has ls 4 [(0, .int v0), (1, .int v1), (2, .ref (g.1 kf2 0)), (3, .ref (g.1 kf3 0))] := hl
  unfold fL_worn at hF
  refine lv_iload_n S.1 S.2.1 dL_worn_0 rfl (lv_at hl 0 rfl) ?_
  refine lv_iconst (v := 2) S.1 S.2.1 dL_worn_1 (by decide) ?_
  refine lv_icmp_ge (tgt := 16) S.1 S.2.1 dL_worn_2 (by decide) (fun hc21 => ?_) (fun hc21 => ?_)
  · replace hF := z_ct hF hc21
    refine lv_aload_n S.1 S.2.1 dL_worn_16 rfl (lv_at hl 3 rfl) ?_
    refine lv_bipush (v := 32) S.1 S.2.1 dL_worn_17 (by decide) ?_
    refine lv_iload_n S.1 S.2.1 dL_worn_19 rfl (lv_at hl 0 rfl) ?_
    refine lv_imul S.1 S.2.1 dL_worn_20 ?_
    refine lv_bipush (v := 64) S.1 S.2.1 dL_worn_21 (by decide) ?_
    refine lv_isub S.1 S.2.1 dL_worn_23 ?_
    refine lv_iload_n S.1 S.2.1 dL_worn_24 rfl (lv_at hl 1 rfl) ?_
    refine lv_iadd S.1 S.2.1 dL_worn_25 ?_
    refine z_iald (k := kf3) (i := 0) (n := 64) S hK hR hF hk3 ha3 dL_worn_26 (fun hF => ?_)
    exact z_iret S hr hlk hR hS hF dL_worn_27
  · replace hF := z_cf hF hc21
    refine lv_aload_n S.1 S.2.1 dL_worn_5 rfl (lv_at hl 2 rfl) ?_
    refine lv_bipush (v := 32) S.1 S.2.1 dL_worn_6 (by decide) ?_
    refine lv_iload_n S.1 S.2.1 dL_worn_8 rfl (lv_at hl 0 rfl) ?_
    refine lv_imul S.1 S.2.1 dL_worn_9 ?_
    refine lv_iload_n S.1 S.2.1 dL_worn_10 rfl (lv_at hl 1 rfl) ?_
    refine lv_iadd S.1 S.2.1 dL_worn_11 ?_
    refine z_iald (k := kf2) (i := 0) (n := 64) S hK hR hF hk2 ha2 dL_worn_12 (fun hF => ?_)
    refine lv_goto (tgt := 27) S.1 S.2.1 dL_worn_13 (by decide) ?_
    exact z_iret S hr hlk hR hS hF dL_worn_27
theorem hL_wear : yL_wear.cls = RL ∧ yL_wear.cls ≠ "java/lang/invoke/MethodHandle" ∧ yL_wear.cls ≠ "java/lang/invoke/VarHandle" ∧ (parseMethodDescriptor yL_wear.desc).map (fun d => d.parameters.length) = some 5 := by decide +kernel
theorem oL_wear : Cond.static yL_wear ∈ zT ∧ Cond.initialized RL ∈ zT ∧ Cond.code yL_wear cL_wear 5 none ∈ zT := ⟨ws_L_wear, wi_L, wk_L_wear⟩
set_option maxRecDepth 100000 in
set_option maxHeartbeats 4000000 in
theorem kL_wear (l : Launch) {g : zGeo} {z : Nat} (hg : zAd g z) {M M' : zM} {v0 : Int32} {v1 : Int32} {v2 : Int32} {kf3 : Nat} (hk3 : 0 < zcnt kf3) (ha3 : zarr kf3 = some (0, 64)) {kf4 : Nat} (hk4 : 0 < zcnt kf4) (ha4 : zarr kf4 = some (0, 64)) {r : Unit} (hF : fL_wear M v0 v1 v2 kf3 kf4 = some (r, M')) : Met l yL_wear [.code yL_wear cL_wear 5 none] { frames := 0, cells := 0, slots := 0, locals := 0 } (zPc g M [.int v0, .int v1, .int v2, .ref (g.1 kf3 0), .ref (g.1 kf4 0)]) (zQv g z M') 0 0 (zS z) := by
  refine z_enter (cc := cL_wear) (maxL := 5) (ret := none) (by decide) rfl (Nat.le_of_ble_eq_true rfl) ?_
  intro p e s m below meth c S hr hlk hK hR hS ls hl
  have S : CallFix p m c cL_wear 5 s _ zT RL := S
  have hl : lv_has ls 5 [(0, .int v0), (1, .int v1), (2, .int v2), (3, .ref (g.1 kf3 0)), (4, .ref (g.1 kf4 0))] := hl
  unfold fL_wear at hF
  refine lv_iload_n S.1 S.2.1 dL_wear_0 rfl (lv_at hl 0 rfl) ?_
  refine lv_iconst (v := 2) S.1 S.2.1 dL_wear_1 (by decide) ?_
  refine lv_icmp_ge (tgt := 20) S.1 S.2.1 dL_wear_2 (by decide) (fun hc21 => ?_) (fun hc21 => ?_)
  · replace hF := z_ct hF hc21
    refine lv_aload S.1 S.2.1 dL_wear_20 (lv_at hl 4 rfl) ?_
    refine lv_bipush (v := 32) S.1 S.2.1 dL_wear_22 (by decide) ?_
    refine lv_iload_n S.1 S.2.1 dL_wear_24 rfl (lv_at hl 0 rfl) ?_
    refine lv_imul S.1 S.2.1 dL_wear_25 ?_
    refine lv_bipush (v := 64) S.1 S.2.1 dL_wear_26 (by decide) ?_
    refine lv_isub S.1 S.2.1 dL_wear_28 ?_
    refine lv_iload_n S.1 S.2.1 dL_wear_29 rfl (lv_at hl 1 rfl) ?_
    refine lv_iadd S.1 S.2.1 dL_wear_30 ?_
    refine lv_dup2_11 S.1 S.2.1 dL_wear_31 rfl rfl ?_
    refine z_iald (k := kf4) (i := 0) (n := 64) S hK hR hF hk4 ha4 dL_wear_32 (fun hF => ?_)
    refine lv_iload_n S.1 S.2.1 dL_wear_33 rfl (lv_at hl 2 rfl) ?_
    refine lv_iadd S.1 S.2.1 dL_wear_34 ?_
    refine z_iast (k := kf4) (i := 0) (n := 64) S hg hK hR hS hF hk4 ha4 dL_wear_35 (fun H locs M22 hR hS hF => ?_)
    exact z_vret S hr hlk hR hS hF dL_wear_36
  · replace hF := z_cf hF hc21
    refine lv_aload_n S.1 S.2.1 dL_wear_5 rfl (lv_at hl 3 rfl) ?_
    refine lv_bipush (v := 32) S.1 S.2.1 dL_wear_6 (by decide) ?_
    refine lv_iload_n S.1 S.2.1 dL_wear_8 rfl (lv_at hl 0 rfl) ?_
    refine lv_imul S.1 S.2.1 dL_wear_9 ?_
    refine lv_iload_n S.1 S.2.1 dL_wear_10 rfl (lv_at hl 1 rfl) ?_
    refine lv_iadd S.1 S.2.1 dL_wear_11 ?_
    refine lv_dup2_11 S.1 S.2.1 dL_wear_12 rfl rfl ?_
    refine z_iald (k := kf3) (i := 0) (n := 64) S hK hR hF hk3 ha3 dL_wear_13 (fun hF => ?_)
    refine lv_iload_n S.1 S.2.1 dL_wear_14 rfl (lv_at hl 2 rfl) ?_
    refine lv_iadd S.1 S.2.1 dL_wear_15 ?_
    refine z_iast (k := kf3) (i := 0) (n := 64) S hg hK hR hS hF hk3 ha3 dL_wear_16 (fun H locs M23 hR hS hF => ?_)
    refine lv_goto (tgt := 36) S.1 S.2.1 dL_wear_17 (by decide) ?_
    exact z_vret S hr hlk hR hS hF dL_wear_36
theorem hL_abs : yL_abs.cls = RL ∧ yL_abs.cls ≠ "java/lang/invoke/MethodHandle" ∧ yL_abs.cls ≠ "java/lang/invoke/VarHandle" ∧ (parseMethodDescriptor yL_abs.desc).map (fun d => d.parameters.length) = some 1 := by decide +kernel
theorem oL_abs : Cond.static yL_abs ∈ zT ∧ Cond.initialized RL ∈ zT ∧ Cond.code yL_abs cL_abs 1 (some .int) ∈ zT := ⟨ws_L_abs, wi_L, wk_L_abs⟩
set_option maxRecDepth 100000 in
set_option maxHeartbeats 4000000 in
theorem kL_abs (l : Launch) {g : zGeo} {z : Nat} (hg : zAd g z) {M M' : zM} {v0 : Int32} {r : Int32} (hF : fL_abs M v0 = some (r, M')) : Met l yL_abs [.code yL_abs cL_abs 1 (some .int)] { frames := 0, cells := 0, slots := 0, locals := 0 } (zPc g M [.int v0]) (zQi g z r M') 0 0 (zS z) := by
  refine z_enter (cc := cL_abs) (maxL := 1) (ret := (some .int)) (by decide) rfl (Nat.le_of_ble_eq_true rfl) ?_
  intro p e s m below meth c S hr hlk hK hR hS ls hl
  have S : CallFix p m c cL_abs 1 s _ zT RL := S
  have hl : lv_has ls 1 [(0, .int v0)] := hl
  unfold fL_abs at hF
  refine lv_iload_n S.1 S.2.1 dL_abs_0 rfl (lv_at hl 0 rfl) ?_
  refine lv_if_ge (tgt := 9) S.1 S.2.1 dL_abs_1 (by decide) (fun hc21 => ?_) (fun hc21 => ?_)
  · replace hF := z_ct hF hc21
    refine lv_iload_n S.1 S.2.1 dL_abs_9 rfl (lv_at hl 0 rfl) ?_
    exact z_iret S hr hlk hR hS hF dL_abs_10
  · replace hF := z_cf hF hc21
    refine lv_iload_n S.1 S.2.1 dL_abs_4 rfl (lv_at hl 0 rfl) ?_
    refine lv_ineg S.1 S.2.1 dL_abs_5 ?_
    refine lv_goto (tgt := 10) S.1 S.2.1 dL_abs_6 (by decide) ?_
    exact z_iret S hr hlk hR hS hF dL_abs_10
theorem hL_place : yL_place.cls = RL ∧ yL_place.cls ≠ "java/lang/invoke/MethodHandle" ∧ yL_place.cls ≠ "java/lang/invoke/VarHandle" ∧ (parseMethodDescriptor yL_place.desc).map (fun d => d.parameters.length) = some 3 := by decide +kernel
theorem oL_place : Cond.static yL_place ∈ zT ∧ Cond.initialized RL ∈ zT ∧ Cond.code yL_place cL_place 13 (some .int) ∈ zT := ⟨ws_L_place, wi_L, wk_L_place⟩
set_option maxRecDepth 100000 in
set_option maxHeartbeats 4000000 in
theorem kL_place (l : Launch) {g : zGeo} {z : Nat} (hg : zAd g z) {M M' : zM} {v0 : Int32} {v1 : Int32} {kf2 : Nat} (hk2 : 0 < zcnt kf2) (ha2 : zarr kf2 = some (0, 48)) {r : Int32} (hF : fL_place M v0 v1 kf2 = some (r, M')) : Met l yL_place [.code yL_place cL_place 13 (some .int)] { frames := 1, cells := 0, slots := 0, locals := 20 } (zPc g M [.int v0, .int v1, .ref (g.1 kf2 0)]) (zQi g z r M') 0 0 (zS z) := by
  refine z_enter (cc := cL_place) (maxL := 13) (ret := (some .int)) (by decide) rfl (Nat.le_of_ble_eq_true rfl) ?_
  intro p e s m below meth c S hr hlk hK hR hS ls hl
  have S : CallFix p m c cL_place 13 s _ zT RL := S
  have hl : lv_has ls 13 [(0, .int v0), (1, .int v1), (2, .ref (g.1 kf2 0))] := hl
  have J135 : ∀ (M : zM) (a5 : Int32) (a6 : Int32) (a7 : Int32) (a8 : Int32) (a9 : Int32) (a11 : Int32) (a12 : Int32) (H : Heap) (locs : List Loc), zR g M H → va_S (zS z) s.heap H locs → ∀ ls : Array Slot, lv_has ls 13 [(5, .int a5), (6, .int a6), (7, .int a7), (8, .int a8), (9, .int a9), (11, .int a11), (12, .int a12)] → fL_place_J135 kf2 M a5 a6 a7 a8 a9 a11 a12 = some (r, M') → W p l e { frames := 1, cells := 0, slots := 0, locals := 20 } s m ([.int v0, .int v1, .ref (g.1 kf2 0)] : List Value).toArray below meth c H locs 0 0 (MQ below (zQi g z r M') ([.int v0, .int v1, .ref (g.1 kf2 0)] : List Value).toArray s 0 0 (zS z)) (F0 m 135 ls []) := by
    intro M a5 a6 a7 a8 a9 a11 a12 H locs hR hS ls hl hF
    unfold fL_place_J135 at hF
    refine lv_iload S.1 S.2.1 dL_place_135 (lv_at hl 5 rfl) ?_
    refine lv_if_le (tgt := 159) S.1 S.2.1 dL_place_137 (by decide) (fun hc35 => ?_) (fun hc35 => ?_)
    · replace hF := z_ct hF hc35
      refine lv_iconst (v := (-1)) S.1 S.2.1 dL_place_159 (by decide) ?_
      exact z_iret S hr hlk hR hS hF dL_place_160
    · replace hF := z_cf hF hc35
      refine lv_iload S.1 S.2.1 dL_place_140 (lv_at hl 5 rfl) ?_
      refine lv_iload S.1 S.2.1 dL_place_142 (lv_at hl 4 rfl) ?_
      refine lv_icmp_ge (tgt := 159) S.1 S.2.1 dL_place_144 (by decide) (fun hc36 => ?_) (fun hc36 => ?_)
      · replace hF := z_ct hF hc36
        refine lv_iconst (v := (-1)) S.1 S.2.1 dL_place_159 (by decide) ?_
        exact z_iret S hr hlk hR hS hF dL_place_160
      · replace hF := z_cf hF hc36
        refine lv_iload S.1 S.2.1 dL_place_147 (lv_at hl 6 rfl) ?_
        refine lv_if_le (tgt := 159) S.1 S.2.1 dL_place_149 (by decide) (fun hc37 => ?_) (fun hc37 => ?_)
        · replace hF := z_ct hF hc37
          refine lv_iconst (v := (-1)) S.1 S.2.1 dL_place_159 (by decide) ?_
          exact z_iret S hr hlk hR hS hF dL_place_160
        · replace hF := z_cf hF hc37
          refine lv_iload S.1 S.2.1 dL_place_152 (lv_at hl 6 rfl) ?_
          refine lv_iload S.1 S.2.1 dL_place_154 (lv_at hl 4 rfl) ?_
          refine lv_icmp_lt (tgt := 161) S.1 S.2.1 dL_place_156 (by decide) (fun hc38 => ?_) (fun hc38 => ?_)
          · replace hF := z_ct hF hc38
            refine lv_bipush (v := 32) S.1 S.2.1 dL_place_161 (by decide) ?_
            refine lv_iload S.1 S.2.1 dL_place_163 (lv_at hl 5 rfl) ?_
            refine lv_imul S.1 S.2.1 dL_place_165 ?_
            refine lv_iload S.1 S.2.1 dL_place_166 (lv_at hl 4 rfl) ?_
            obtain ⟨hne, hF⟩ := zV_out hF
            refine lv_idiv S.1 S.2.1 dL_place_168 hne ?_
            refine lv_iload S.1 S.2.1 dL_place_169 (lv_at hl 4 rfl) ?_
            refine lv_iload S.1 S.2.1 dL_place_171 (lv_at hl 0 rfl) ?_
            refine lv_iload S.1 S.2.1 dL_place_173 (lv_at hl 2 rfl) ?_
            refine lv_imul S.1 S.2.1 dL_place_175 ?_
            refine lv_iload S.1 S.2.1 dL_place_176 (lv_at hl 1 rfl) ?_
            refine lv_iload S.1 S.2.1 dL_place_178 (lv_at hl 3 rfl) ?_
            refine lv_imul S.1 S.2.1 dL_place_180 ?_
            refine lv_iadd S.1 S.2.1 dL_place_181 ?_
            refine z_goi hS hF (fun _ _ ho => va_runS (n := 1) (As := [.int ((a5 * a7) + (a6 * a8))]) (rest := [.int a9, .int ((32 * a11) / a9)]) S (kL_abs l hg ho) (va_cwS 1 S.2.2.2.2 (zgS wm_L_10 oL_abs) rfl rfl rfl hL_abs.2 ⟨Nat.le_of_ble_eq_true rfl, Nat.le_of_ble_eq_true rfl⟩) ⟨zPc_blind, z_pre hK hR⟩ rfl rfl hl.1 rfl (lv_room (Nat.le_of_ble_eq_true rfl)) dL_place_182 ⟨Nat.zero_le _, Nat.zero_le _⟩) (fun r40 M39 H locs hR hS hF => ?_)
            refine lv_icmp_lt (tgt := 193) S.1 S.2.1 dL_place_185 (by decide) (fun hc41 => ?_) (fun hc41 => ?_)
            · replace hF := z_ct hF hc41
              refine lv_iconst (v := 0) S.1 S.2.1 dL_place_193 (by decide) ?_
              refine lv_iadd S.1 S.2.1 dL_place_194 ?_
              exact z_iret S hr hlk hR hS hF dL_place_195
            · replace hF := z_cf hF hc41
              refine lv_bipush (v := 64) S.1 S.2.1 dL_place_188 (by decide) ?_
              refine lv_goto (tgt := 194) S.1 S.2.1 dL_place_190 (by decide) ?_
              refine lv_iadd S.1 S.2.1 dL_place_194 ?_
              exact z_iret S hr hlk hR hS hF dL_place_195
          · replace hF := z_cf hF hc38
            refine lv_iconst (v := (-1)) S.1 S.2.1 dL_place_159 (by decide) ?_
            exact z_iret S hr hlk hR hS hF dL_place_160
  unfold fL_place at hF
  refine lv_bipush (v := 12) S.1 S.2.1 dL_place_0 (by decide) ?_
  refine lv_iload_n S.1 S.2.1 dL_place_2 rfl (lv_at hl 0 rfl) ?_
  refine lv_imul S.1 S.2.1 dL_place_3 ?_
  refine z_nm hF (fun v21 hF => ?_)
  refine lv_istore_n (lv' := [(3, .int v21), (0, .int v0), (1, .int v1), (2, .ref (g.1 kf2 0))]) S.1 S.2.1 dL_place_4 rfl hl (by decide) rfl (fun ls hl => ?_)
  refine lv_bipush (v := 12) S.1 S.2.1 dL_place_5 (by decide) ?_
  refine lv_iload_n S.1 S.2.1 dL_place_7 rfl (lv_at hl 2 rfl) ?_
  refine lv_imul S.1 S.2.1 dL_place_8 ?_
  refine z_nm hF (fun v22 hF => ?_)
  refine lv_istore (lv' := [(4, .int v22), (3, .int v21), (0, .int v0), (1, .int v1), (2, .ref (g.1 kf2 0))]) S.1 S.2.1 dL_place_9 hl (by decide) rfl (fun ls hl => ?_)
  refine lv_aload_n S.1 S.2.1 dL_place_11 rfl (lv_at hl 4 rfl) ?_
  refine lv_iload_n S.1 S.2.1 dL_place_12 rfl (lv_at hl 1 rfl) ?_
  refine lv_bipush (v := 8) S.1 S.2.1 dL_place_13 (by decide) ?_
  refine lv_iadd S.1 S.2.1 dL_place_15 ?_
  refine z_iald (k := kf2) (i := 0) (n := 48) S hK hR hF hk2 ha2 dL_place_16 (fun hF => ?_)
  refine lv_if_ne (tgt := 30) S.1 S.2.1 dL_place_17 (by decide) (fun hc23 => ?_) (fun hc23 => ?_)
  · replace hF := z_cf hF hc23
    refine lv_iconst (v := (-1)) S.1 S.2.1 dL_place_30 (by decide) ?_
    exact z_iret S hr hlk hR hS hF dL_place_31
  · replace hF := z_ct hF hc23
    refine lv_aload_n S.1 S.2.1 dL_place_20 rfl (lv_at hl 4 rfl) ?_
    refine lv_iload S.1 S.2.1 dL_place_21 (lv_at hl 0 rfl) ?_
    refine lv_bipush (v := 8) S.1 S.2.1 dL_place_23 (by decide) ?_
    refine lv_iadd S.1 S.2.1 dL_place_25 ?_
    refine z_iald (k := kf2) (i := 0) (n := 48) S hK hR hF hk2 ha2 dL_place_26 (fun hF => ?_)
    refine lv_if_eq (tgt := 32) S.1 S.2.1 dL_place_27 (by decide) (fun hc24 => ?_) (fun hc24 => ?_)
    · replace hF := z_ct hF hc24
      refine lv_aload_n S.1 S.2.1 dL_place_32 rfl (lv_at hl 4 rfl) ?_
      refine lv_iload_n S.1 S.2.1 dL_place_33 rfl (lv_at hl 1 rfl) ?_
      refine lv_iconst (v := 1) S.1 S.2.1 dL_place_34 (by decide) ?_
      refine lv_iadd S.1 S.2.1 dL_place_35 ?_
      refine z_iald (k := kf2) (i := 0) (n := 48) S hK hR hF hk2 ha2 dL_place_36 (fun hF => ?_)
      refine lv_aload_n S.1 S.2.1 dL_place_37 rfl (lv_at hl 4 rfl) ?_
      refine lv_iload_n S.1 S.2.1 dL_place_38 rfl (lv_at hl 1 rfl) ?_
      refine z_iald (k := kf2) (i := 0) (n := 48) S hK hR hF hk2 ha2 dL_place_39 (fun hF => ?_)
      refine lv_isub S.1 S.2.1 dL_place_40 ?_
      refine z_nm hF (fun v25 hF => ?_)
      refine lv_istore (lv' := [(5, .int v25), (4, .int v22), (3, .int v21), (0, .int v0), (1, .int v1), (2, .ref (g.1 kf2 0))]) S.1 S.2.1 dL_place_41 hl (by decide) rfl (fun ls hl => ?_)
      refine lv_aload_n S.1 S.2.1 dL_place_43 rfl (lv_at hl 5 rfl) ?_
      refine lv_iload_n S.1 S.2.1 dL_place_44 rfl (lv_at hl 2 rfl) ?_
      refine lv_iconst (v := 2) S.1 S.2.1 dL_place_45 (by decide) ?_
      refine lv_iadd S.1 S.2.1 dL_place_46 ?_
      refine z_iald (k := kf2) (i := 0) (n := 48) S hK hR hF hk2 ha2 dL_place_47 (fun hF => ?_)
      refine z_nm hF (fun v26 hF => ?_)
      refine lv_istore (lv' := [(6, .int v26), (5, .int v25), (4, .int v22), (3, .int v21), (0, .int v0), (1, .int v1), (2, .ref (g.1 kf2 0))]) S.1 S.2.1 dL_place_48 hl (by decide) rfl (fun ls hl => ?_)
      refine lv_aload_n S.1 S.2.1 dL_place_50 rfl (lv_at hl 6 rfl) ?_
      refine lv_iload S.1 S.2.1 dL_place_51 (lv_at hl 2 rfl) ?_
      refine lv_iconst (v := 1) S.1 S.2.1 dL_place_53 (by decide) ?_
      refine lv_iadd S.1 S.2.1 dL_place_54 ?_
      refine z_iald (k := kf2) (i := 0) (n := 48) S hK hR hF hk2 ha2 dL_place_55 (fun hF => ?_)
      refine lv_aload_n S.1 S.2.1 dL_place_56 rfl (lv_at hl 6 rfl) ?_
      refine lv_iload S.1 S.2.1 dL_place_57 (lv_at hl 2 rfl) ?_
      refine z_iald (k := kf2) (i := 0) (n := 48) S hK hR hF hk2 ha2 dL_place_59 (fun hF => ?_)
      refine lv_isub S.1 S.2.1 dL_place_60 ?_
      refine z_nm hF (fun v27 hF => ?_)
      refine lv_istore (lv' := [(7, .int v27), (6, .int v26), (5, .int v25), (4, .int v22), (3, .int v21), (0, .int v0), (1, .int v1), (2, .ref (g.1 kf2 0))]) S.1 S.2.1 dL_place_61 hl (by decide) rfl (fun ls hl => ?_)
      refine lv_aload_n S.1 S.2.1 dL_place_63 rfl (lv_at hl 7 rfl) ?_
      refine lv_iload S.1 S.2.1 dL_place_64 (lv_at hl 3 rfl) ?_
      refine lv_iconst (v := 2) S.1 S.2.1 dL_place_66 (by decide) ?_
      refine lv_iadd S.1 S.2.1 dL_place_67 ?_
      refine z_iald (k := kf2) (i := 0) (n := 48) S hK hR hF hk2 ha2 dL_place_68 (fun hF => ?_)
      refine z_nm hF (fun v28 hF => ?_)
      refine lv_istore (lv' := [(8, .int v28), (7, .int v27), (6, .int v26), (5, .int v25), (4, .int v22), (3, .int v21), (0, .int v0), (1, .int v1), (2, .ref (g.1 kf2 0))]) S.1 S.2.1 dL_place_69 hl (by decide) rfl (fun ls hl => ?_)
      refine lv_iload S.1 S.2.1 dL_place_71 (lv_at hl 3 rfl) ?_
      refine lv_iload S.1 S.2.1 dL_place_73 (lv_at hl 0 rfl) ?_
      refine lv_imul S.1 S.2.1 dL_place_75 ?_
      refine lv_iload S.1 S.2.1 dL_place_76 (lv_at hl 2 rfl) ?_
      refine lv_iload S.1 S.2.1 dL_place_78 (lv_at hl 1 rfl) ?_
      refine lv_imul S.1 S.2.1 dL_place_80 ?_
      refine lv_isub S.1 S.2.1 dL_place_81 ?_
      refine z_nm hF (fun v29 hF => ?_)
      refine lv_istore (lv' := [(9, .int v29), (8, .int v28), (7, .int v27), (6, .int v26), (5, .int v25), (4, .int v22), (3, .int v21), (0, .int v0), (1, .int v1), (2, .ref (g.1 kf2 0))]) S.1 S.2.1 dL_place_82 hl (by decide) rfl (fun ls hl => ?_)
      refine lv_iload S.1 S.2.1 dL_place_84 (lv_at hl 0 rfl) ?_
      refine lv_if_ne (tgt := 91) S.1 S.2.1 dL_place_86 (by decide) (fun hc30 => ?_) (fun hc30 => ?_)
      · replace hF := z_cf hF hc30
        refine lv_aload_n S.1 S.2.1 dL_place_91 rfl (lv_at hl 9 rfl) ?_
        refine lv_iload S.1 S.2.1 dL_place_92 (lv_at hl 5 rfl) ?_
        refine z_iald (k := kf2) (i := 0) (n := 48) S hK hR hF hk2 ha2 dL_place_94 (fun hF => ?_)
        refine lv_aload_n S.1 S.2.1 dL_place_95 rfl (lv_at hl 9 rfl) ?_
        refine lv_iload_n S.1 S.2.1 dL_place_96 rfl (lv_at hl 6 rfl) ?_
        refine z_iald (k := kf2) (i := 0) (n := 48) S hK hR hF hk2 ha2 dL_place_97 (fun hF => ?_)
        refine lv_isub S.1 S.2.1 dL_place_98 ?_
        refine z_nm hF (fun v31 hF => ?_)
        refine lv_istore (lv' := [(10, .int v31), (9, .int v29), (8, .int v28), (7, .int v27), (6, .int v26), (5, .int v25), (4, .int v22), (3, .int v21), (0, .int v0), (1, .int v1), (2, .ref (g.1 kf2 0))]) S.1 S.2.1 dL_place_99 hl (by decide) rfl (fun ls hl => ?_)
        refine lv_iload S.1 S.2.1 dL_place_101 (lv_at hl 0 rfl) ?_
        refine lv_iload S.1 S.2.1 dL_place_103 (lv_at hl 2 rfl) ?_
        refine lv_imul S.1 S.2.1 dL_place_105 ?_
        refine z_nm hF (fun v32 hF => ?_)
        refine lv_istore (lv' := [(11, .int v32), (10, .int v31), (9, .int v29), (8, .int v28), (7, .int v27), (6, .int v26), (5, .int v25), (4, .int v22), (3, .int v21), (0, .int v0), (1, .int v1), (2, .ref (g.1 kf2 0))]) S.1 S.2.1 dL_place_106 hl (by decide) rfl (fun ls hl => ?_)
        refine lv_iload S.1 S.2.1 dL_place_108 (lv_at hl 1 rfl) ?_
        refine lv_iload S.1 S.2.1 dL_place_110 (lv_at hl 5 rfl) ?_
        refine lv_imul S.1 S.2.1 dL_place_112 ?_
        refine z_nm hF (fun v33 hF => ?_)
        refine lv_istore (lv' := [(12, .int v33), (11, .int v32), (10, .int v31), (9, .int v29), (8, .int v28), (7, .int v27), (6, .int v26), (5, .int v25), (4, .int v22), (3, .int v21), (0, .int v0), (1, .int v1), (2, .ref (g.1 kf2 0))]) S.1 S.2.1 dL_place_113 hl (by decide) rfl (fun ls hl => ?_)
        refine lv_iload S.1 S.2.1 dL_place_115 (lv_at hl 3 rfl) ?_
        refine lv_if_ge (tgt := 135) S.1 S.2.1 dL_place_117 (by decide) (fun hc34 => ?_) (fun hc34 => ?_)
        · replace hF := z_ct hF hc34
          exact J135 _ _ _ _ _ _ _ _ _ _ hR hS _ (lv_sub hl [7, 6, 5, 4, 3, 1, 0] rfl) hF
        · replace hF := z_cf hF hc34
          refine lv_iload S.1 S.2.1 dL_place_120 (lv_at hl 1 rfl) ?_
          refine lv_ineg S.1 S.2.1 dL_place_122 ?_
          refine z_nm hF (fun v42 hF => ?_)
          refine lv_istore (lv' := [(11, .int v42), (12, .int v33), (10, .int v31), (9, .int v29), (8, .int v28), (7, .int v27), (6, .int v26), (5, .int v25), (4, .int v22), (3, .int v21), (0, .int v0), (1, .int v1), (2, .ref (g.1 kf2 0))]) S.1 S.2.1 dL_place_123 hl (by decide) rfl (fun ls hl => ?_)
          refine lv_iload S.1 S.2.1 dL_place_125 (lv_at hl 1 rfl) ?_
          refine lv_ineg S.1 S.2.1 dL_place_127 ?_
          refine z_nm hF (fun v43 hF => ?_)
          refine lv_istore (lv' := [(12, .int v43), (11, .int v42), (10, .int v31), (9, .int v29), (8, .int v28), (7, .int v27), (6, .int v26), (5, .int v25), (4, .int v22), (3, .int v21), (0, .int v0), (1, .int v1), (2, .ref (g.1 kf2 0))]) S.1 S.2.1 dL_place_128 hl (by decide) rfl (fun ls hl => ?_)
          refine lv_iload S.1 S.2.1 dL_place_130 (lv_at hl 3 rfl) ?_
          refine lv_ineg S.1 S.2.1 dL_place_132 ?_
          refine z_nm hF (fun v44 hF => ?_)
          refine lv_istore (lv' := [(9, .int v44), (12, .int v43), (11, .int v42), (10, .int v31), (8, .int v28), (7, .int v27), (6, .int v26), (5, .int v25), (4, .int v22), (3, .int v21), (0, .int v0), (1, .int v1), (2, .ref (g.1 kf2 0))]) S.1 S.2.1 dL_place_133 hl (by decide) rfl (fun ls hl => ?_)
          exact J135 _ _ _ _ _ _ _ _ _ _ hR hS _ (lv_sub hl [7, 6, 5, 4, 0, 2, 1] rfl) hF
      · replace hF := z_ct hF hc30
        refine lv_iconst (v := (-1)) S.1 S.2.1 dL_place_89 (by decide) ?_
        exact z_iret S hr hlk hR hS hF dL_place_90
    · replace hF := z_cf hF hc24
      refine lv_iconst (v := (-1)) S.1 S.2.1 dL_place_30 (by decide) ?_
      exact z_iret S hr hlk hR hS hF dL_place_31
theorem hL_sliding : yL_sliding.cls = RL ∧ yL_sliding.cls ≠ "java/lang/invoke/MethodHandle" ∧ yL_sliding.cls ≠ "java/lang/invoke/VarHandle" ∧ (parseMethodDescriptor yL_sliding.desc).map (fun d => d.parameters.length) = some 3 := by decide +kernel
theorem oL_sliding : Cond.static yL_sliding ∈ zT ∧ Cond.initialized RL ∈ zT ∧ Cond.code yL_sliding cL_sliding 3 (some .int) ∈ zT := ⟨ws_L_sliding, wi_L, wk_L_sliding⟩
set_option maxRecDepth 100000 in
set_option maxHeartbeats 4000000 in
theorem kL_sliding (l : Launch) {g : zGeo} {z : Nat} (hg : zAd g z) {M M' : zM} {v0 : Int32} {v1 : Int32} {kf2 : Nat} (hk2 : 0 < zcnt kf2) (ha2 : zarr kf2 = some (0, 48)) {r : Int32} (hF : fL_sliding M v0 v1 kf2 = some (r, M')) : Met l yL_sliding [.code yL_sliding cL_sliding 3 (some .int)] { frames := 1, cells := 0, slots := 0, locals := 20 } (zPc g M [.int v0, .int v1, .ref (g.1 kf2 0)]) (zQi g z r M') 0 0 (zS z) := by
  refine z_enter (cc := cL_sliding) (maxL := 3) (ret := (some .int)) (by decide) rfl (Nat.le_of_ble_eq_true rfl) ?_
  intro p e s m below meth c S hr hlk hK hR hS ls hl
  have S : CallFix p m c cL_sliding 3 s _ zT RL := S
  have hl : lv_has ls 3 [(0, .int v0), (1, .int v1), (2, .ref (g.1 kf2 0))] := hl
  unfold fL_sliding at hF
  refine lv_iconst (v := 1) S.1 S.2.1 dL_sliding_0 (by decide) ?_
  refine lv_aload_n S.1 S.2.1 dL_sliding_1 rfl (lv_at hl 2 rfl) ?_
  refine lv_bipush (v := 12) S.1 S.2.1 dL_sliding_2 (by decide) ?_
  refine lv_iload_n S.1 S.2.1 dL_sliding_4 rfl (lv_at hl 0 rfl) ?_
  refine lv_imul S.1 S.2.1 dL_sliding_5 ?_
  refine lv_iconst (v := 3) S.1 S.2.1 dL_sliding_6 (by decide) ?_
  refine lv_iadd S.1 S.2.1 dL_sliding_7 ?_
  refine z_iald (k := kf2) (i := 0) (n := 48) S hK hR hF hk2 ha2 dL_sliding_8 (fun hF => ?_)
  refine lv_aload_n S.1 S.2.1 dL_sliding_9 rfl (lv_at hl 2 rfl) ?_
  refine lv_bipush (v := 12) S.1 S.2.1 dL_sliding_10 (by decide) ?_
  refine lv_iload_n S.1 S.2.1 dL_sliding_12 rfl (lv_at hl 1 rfl) ?_
  refine lv_imul S.1 S.2.1 dL_sliding_13 ?_
  refine lv_iconst (v := 3) S.1 S.2.1 dL_sliding_14 (by decide) ?_
  refine lv_iadd S.1 S.2.1 dL_sliding_15 ?_
  refine z_iald (k := kf2) (i := 0) (n := 48) S hK hR hF hk2 ha2 dL_sliding_16 (fun hF => ?_)
  refine lv_isub S.1 S.2.1 dL_sliding_17 ?_
  refine z_goi hS hF (fun _ _ ho => va_runS (n := 1) (As := [.int ((M kf2 0 (zN ((12 * v0) + 3))) - (M kf2 0 (zN ((12 * v1) + 3))))]) (rest := [.int 1]) S (kL_abs l hg ho) (va_cwS 1 S.2.2.2.2 (zgS wm_L_10 oL_abs) rfl rfl rfl hL_abs.2 ⟨Nat.le_of_ble_eq_true rfl, Nat.le_of_ble_eq_true rfl⟩) ⟨zPc_blind, z_pre hK hR⟩ rfl rfl hl.1 rfl (lv_room (Nat.le_of_ble_eq_true rfl)) dL_sliding_18 ⟨Nat.zero_le _, Nat.zero_le _⟩) (fun r22 M21 H locs hR hS hF => ?_)
  refine lv_iadd S.1 S.2.1 dL_sliding_21 ?_
  refine lv_aload_n S.1 S.2.1 dL_sliding_22 rfl (lv_at hl 2 rfl) ?_
  refine lv_bipush (v := 12) S.1 S.2.1 dL_sliding_23 (by decide) ?_
  refine lv_iload_n S.1 S.2.1 dL_sliding_25 rfl (lv_at hl 0 rfl) ?_
  refine lv_imul S.1 S.2.1 dL_sliding_26 ?_
  refine lv_iconst (v := 4) S.1 S.2.1 dL_sliding_27 (by decide) ?_
  refine lv_iadd S.1 S.2.1 dL_sliding_28 ?_
  refine z_iald (k := kf2) (i := 0) (n := 48) S hK hR hF hk2 ha2 dL_sliding_29 (fun hF => ?_)
  refine lv_aload_n S.1 S.2.1 dL_sliding_30 rfl (lv_at hl 2 rfl) ?_
  refine lv_bipush (v := 12) S.1 S.2.1 dL_sliding_31 (by decide) ?_
  refine lv_iload_n S.1 S.2.1 dL_sliding_33 rfl (lv_at hl 1 rfl) ?_
  refine lv_imul S.1 S.2.1 dL_sliding_34 ?_
  refine lv_iconst (v := 4) S.1 S.2.1 dL_sliding_35 (by decide) ?_
  refine lv_iadd S.1 S.2.1 dL_sliding_36 ?_
  refine z_iald (k := kf2) (i := 0) (n := 48) S hK hR hF hk2 ha2 dL_sliding_37 (fun hF => ?_)
  refine lv_isub S.1 S.2.1 dL_sliding_38 ?_
  refine z_goi hS hF (fun _ _ ho => va_runS (n := 1) (As := [.int ((M21 kf2 0 (zN ((12 * v0) + 4))) - (M21 kf2 0 (zN ((12 * v1) + 4))))]) (rest := [.int (1 + r22)]) S (kL_abs l hg ho) (va_cwS 1 S.2.2.2.2 (zgS wm_L_10 oL_abs) rfl rfl rfl hL_abs.2 ⟨Nat.le_of_ble_eq_true rfl, Nat.le_of_ble_eq_true rfl⟩) ⟨zPc_blind, z_pre hK hR⟩ rfl rfl hl.1 rfl (lv_room (Nat.le_of_ble_eq_true rfl)) dL_sliding_39 ⟨Nat.zero_le _, Nat.zero_le _⟩) (fun r24 M23 H locs hR hS hF => ?_)
  refine lv_iadd S.1 S.2.1 dL_sliding_42 ?_
  exact z_iret S hr hlk hR hS hF dL_sliding_43
theorem hL_tick : yL_tick.cls = RL ∧ yL_tick.cls ≠ "java/lang/invoke/MethodHandle" ∧ yL_tick.cls ≠ "java/lang/invoke/VarHandle" ∧ (parseMethodDescriptor yL_tick.desc).map (fun d => d.parameters.length) = some 5 := by decide +kernel
theorem oL_tick : Cond.static yL_tick ∈ zT ∧ Cond.initialized RL ∈ zT ∧ Cond.code yL_tick cL_tick 10 (some .int) ∈ zT := ⟨ws_L_tick, wi_L, wk_L_tick⟩
set_option maxRecDepth 100000 in
set_option maxHeartbeats 4000000 in
theorem kL_tick (l : Launch) {g : zGeo} {z : Nat} (hg : zAd g z) {M M' : zM} {kf0 : Nat} (hk0 : 0 < zcnt kf0) (ha0 : zarr kf0 = some (0, 4)) {kf1 : Nat} (hk1 : 0 < zcnt kf1) (ha1 : zarr kf1 = some (0, 48)) {kf2 : Nat} (hk2 : 0 < zcnt kf2) (ha2 : zarr kf2 = some (0, 64)) {kf3 : Nat} (hk3 : 0 < zcnt kf3) (ha3 : zarr kf3 = some (0, 64)) {kf4 : Nat} (hk4 : 0 < zcnt kf4) (ha4 : zarr kf4 = some (0, 16)) {r : Int32} (hF : fL_tick M kf0 kf1 kf2 kf3 kf4 = some (r, M')) : Met l yL_tick [.code yL_tick cL_tick 10 (some .int)] { frames := 2, cells := 0, slots := 0, locals := 52 } (zPc g M [.ref (g.1 kf0 0), .ref (g.1 kf1 0), .ref (g.1 kf2 0), .ref (g.1 kf3 0), .ref (g.1 kf4 0)]) (zQi g z r M') 0 0 (zS z) := by
  refine z_enter (cc := cL_tick) (maxL := 10) (ret := (some .int)) (by decide) rfl (Nat.le_of_ble_eq_true rfl) ?_
  intro p e s m below meth c S hr hlk hK hR hS ls hl
  have S : CallFix p m c cL_tick 10 s _ zT RL := S
  have hl : lv_has ls 10 [(0, .ref (g.1 kf0 0)), (1, .ref (g.1 kf1 0)), (2, .ref (g.1 kf2 0)), (3, .ref (g.1 kf3 0)), (4, .ref (g.1 kf4 0))] := hl
  have L3 : ∀ (k : zM → Int32 → Option (Int32 × zM)) , (∀ (M : zM) (a5 : Int32) (H : Heap) (locs : List Loc), zR g M H → va_S (zS z) s.heap H locs → ∀ ls : Array Slot, lv_has ls 10 [(0, .ref (g.1 kf0 0)), (1, .ref (g.1 kf1 0)), (2, .ref (g.1 kf2 0)), (3, .ref (g.1 kf3 0)), (4, .ref (g.1 kf4 0)), (5, .int a5)] → k M a5 = some (r, M') → W p l e { frames := 2, cells := 0, slots := 0, locals := 52 } s m ([.ref (g.1 kf0 0), .ref (g.1 kf1 0), .ref (g.1 kf2 0), .ref (g.1 kf3 0), .ref (g.1 kf4 0)] : List Value).toArray below meth c H locs 0 0 (MQ below (zQi g z r M') ([.ref (g.1 kf0 0), .ref (g.1 kf1 0), .ref (g.1 kf2 0), .ref (g.1 kf3 0), .ref (g.1 kf4 0)] : List Value).toArray s 0 0 (zS z)) (F0 m 140 ls [])) → ∀ (n : Nat) (M : zM) (a5 : Int32) (H : Heap) (locs : List Loc), zR g M H → va_S (zS z) s.heap H locs → ∀ ls : Array Slot, lv_has ls 10 [(0, .ref (g.1 kf0 0)), (1, .ref (g.1 kf1 0)), (2, .ref (g.1 kf2 0)), (3, .ref (g.1 kf3 0)), (4, .ref (g.1 kf4 0)), (5, .int a5)] → fL_tick_L3 k kf0 kf1 kf2 kf3 kf4 n M a5 = some (r, M') → W p l e { frames := 2, cells := 0, slots := 0, locals := 52 } s m ([.ref (g.1 kf0 0), .ref (g.1 kf1 0), .ref (g.1 kf2 0), .ref (g.1 kf3 0), .ref (g.1 kf4 0)] : List Value).toArray below meth c H locs 0 0 (MQ below (zQi g z r M') ([.ref (g.1 kf0 0), .ref (g.1 kf1 0), .ref (g.1 kf2 0), .ref (g.1 kf3 0), .ref (g.1 kf4 0)] : List Value).toArray s 0 0 (zS z)) (F0 m 3 ls []) := by
    intro k  hk n
    induction n with
    | zero =>
      intro M a5 H locs hR hS ls hl hF
      cases hF
    | succ n ih =>
      intro M a5 H locs hR hS ls hl hF
      unfold fL_tick_L3 at hF
      have J134 : ∀ (M : zM) (a5 : Int32) (H : Heap) (locs : List Loc), zR g M H → va_S (zS z) s.heap H locs → ∀ ls : Array Slot, lv_has ls 10 [(0, .ref (g.1 kf0 0)), (1, .ref (g.1 kf1 0)), (2, .ref (g.1 kf2 0)), (3, .ref (g.1 kf3 0)), (4, .ref (g.1 kf4 0)), (5, .int a5)] → fL_tick_J134 (fL_tick_L3 k kf0 kf1 kf2 kf3 kf4 n) k kf0 kf1 kf2 kf3 kf4 M a5 = some (r, M') → W p l e { frames := 2, cells := 0, slots := 0, locals := 52 } s m ([.ref (g.1 kf0 0), .ref (g.1 kf1 0), .ref (g.1 kf2 0), .ref (g.1 kf3 0), .ref (g.1 kf4 0)] : List Value).toArray below meth c H locs 0 0 (MQ below (zQi g z r M') ([.ref (g.1 kf0 0), .ref (g.1 kf1 0), .ref (g.1 kf2 0), .ref (g.1 kf3 0), .ref (g.1 kf4 0)] : List Value).toArray s 0 0 (zS z)) (F0 m 134 ls []) := by
        intro M a5 H locs hR hS ls hl hF
        unfold fL_tick_J134 at hF
        obtain ⟨v30, ev30, hF⟩ := zL_out hF
        refine lv_iinc (v := v30) (lv' := [(5, .int v30), (0, .ref (g.1 kf0 0)), (1, .ref (g.1 kf1 0)), (2, .ref (g.1 kf2 0)), (3, .ref (g.1 kf3 0)), (4, .ref (g.1 kf4 0))]) S.1 S.2.1 dL_tick_134 hl (k := 5) rfl (by rw [← ev30]; rfl) (by decide) rfl (fun ls hl => ?_)
        refine lv_goto (tgt := 3) S.1 S.2.1 dL_tick_137 (by decide) ?_
        exact ih _ _ _ _ hR hS _ (lv_sub hl [1, 2, 3, 4, 5, 0] rfl) hF
      have J82 : ∀ (M : zM) (a5 : Int32) (a6 : Int32) (H : Heap) (locs : List Loc), zR g M H → va_S (zS z) s.heap H locs → ∀ ls : Array Slot, lv_has ls 10 [(0, .ref (g.1 kf0 0)), (1, .ref (g.1 kf1 0)), (2, .ref (g.1 kf2 0)), (3, .ref (g.1 kf3 0)), (4, .ref (g.1 kf4 0)), (5, .int a5), (6, .int a6)] → fL_tick_J82 (fL_tick_L3 k kf0 kf1 kf2 kf3 kf4 n) k kf0 kf1 kf2 kf3 kf4 M a5 a6 = some (r, M') → W p l e { frames := 2, cells := 0, slots := 0, locals := 52 } s m ([.ref (g.1 kf0 0), .ref (g.1 kf1 0), .ref (g.1 kf2 0), .ref (g.1 kf3 0), .ref (g.1 kf4 0)] : List Value).toArray below meth c H locs 0 0 (MQ below (zQi g z r M') ([.ref (g.1 kf0 0), .ref (g.1 kf1 0), .ref (g.1 kf2 0), .ref (g.1 kf3 0), .ref (g.1 kf4 0)] : List Value).toArray s 0 0 (zS z)) (F0 m 82 ls []) := by
        intro M a5 a6 H locs hR hS ls hl hF
        unfold fL_tick_J82 at hF
        refine lv_aload_n S.1 S.2.1 dL_tick_82 rfl (lv_at hl 1 rfl) ?_
        refine lv_iload S.1 S.2.1 dL_tick_83 (lv_at hl 6 rfl) ?_
        refine lv_iconst (v := 2) S.1 S.2.1 dL_tick_85 (by decide) ?_
        refine lv_iadd S.1 S.2.1 dL_tick_86 ?_
        refine z_iald (k := kf1) (i := 0) (n := 48) S hK hR hF hk1 ha1 dL_tick_87 (fun hF => ?_)
        refine lv_aload_n S.1 S.2.1 dL_tick_88 rfl (lv_at hl 1 rfl) ?_
        refine lv_iload S.1 S.2.1 dL_tick_89 (lv_at hl 6 rfl) ?_
        refine lv_iconst (v := 4) S.1 S.2.1 dL_tick_91 (by decide) ?_
        refine lv_iadd S.1 S.2.1 dL_tick_92 ?_
        refine z_iald (k := kf1) (i := 0) (n := 48) S hK hR hF hk1 ha1 dL_tick_93 (fun hF => ?_)
        refine lv_iadd S.1 S.2.1 dL_tick_94 ?_
        refine z_nm hF (fun v27 hF => ?_)
        refine lv_istore (lv' := [(8, .int v27), (0, .ref (g.1 kf0 0)), (1, .ref (g.1 kf1 0)), (2, .ref (g.1 kf2 0)), (3, .ref (g.1 kf3 0)), (4, .ref (g.1 kf4 0)), (5, .int a5), (6, .int a6)]) S.1 S.2.1 dL_tick_95 hl (by decide) rfl (fun ls hl => ?_)
        refine lv_iload S.1 S.2.1 dL_tick_97 (lv_at hl 0 rfl) ?_
        refine lv_iconst (v := 1) S.1 S.2.1 dL_tick_99 (by decide) ?_
        refine lv_icmp_lt (tgt := 110) S.1 S.2.1 dL_tick_100 (by decide) (fun hc28 => ?_) (fun hc28 => ?_)
        · replace hF := z_ct hF hc28
          refine lv_aload_n S.1 S.2.1 dL_tick_110 rfl (lv_at hl 2 rfl) ?_
          refine lv_iload S.1 S.2.1 dL_tick_111 (lv_at hl 7 rfl) ?_
          refine lv_iconst (v := 4) S.1 S.2.1 dL_tick_113 (by decide) ?_
          refine lv_iadd S.1 S.2.1 dL_tick_114 ?_
          refine lv_aload_n S.1 S.2.1 dL_tick_115 rfl (lv_at hl 2 rfl) ?_
          refine lv_iload S.1 S.2.1 dL_tick_116 (lv_at hl 7 rfl) ?_
          refine lv_iconst (v := 4) S.1 S.2.1 dL_tick_118 (by decide) ?_
          refine lv_iadd S.1 S.2.1 dL_tick_119 ?_
          refine z_iald (k := kf1) (i := 0) (n := 48) S hK hR hF hk1 ha1 dL_tick_120 (fun hF => ?_)
          refine lv_ineg S.1 S.2.1 dL_tick_121 ?_
          refine z_iast (k := kf1) (i := 0) (n := 48) S hg hK hR hS hF hk1 ha1 dL_tick_122 (fun H locs M29 hR hS hF => ?_)
          refine lv_goto (tgt := 134) S.1 S.2.1 dL_tick_123 (by decide) ?_
          exact J134 _ _ _ _ hR hS _ (lv_sub hl [1, 2, 3, 4, 5, 6] rfl) hF
        · replace hF := z_cf hF hc28
          refine lv_iload S.1 S.2.1 dL_tick_103 (lv_at hl 0 rfl) ?_
          refine lv_bipush (v := 47) S.1 S.2.1 dL_tick_105 (by decide) ?_
          refine lv_icmp_le (tgt := 126) S.1 S.2.1 dL_tick_107 (by decide) (fun hc31 => ?_) (fun hc31 => ?_)
          · replace hF := z_ct hF hc31
            refine lv_aload_n S.1 S.2.1 dL_tick_126 rfl (lv_at hl 2 rfl) ?_
            refine lv_iload S.1 S.2.1 dL_tick_127 (lv_at hl 7 rfl) ?_
            refine lv_iconst (v := 2) S.1 S.2.1 dL_tick_129 (by decide) ?_
            refine lv_iadd S.1 S.2.1 dL_tick_130 ?_
            refine lv_iload S.1 S.2.1 dL_tick_131 (lv_at hl 0 rfl) ?_
            refine z_iast (k := kf1) (i := 0) (n := 48) S hg hK hR hS hF hk1 ha1 dL_tick_133 (fun H locs M32 hR hS hF => ?_)
            exact J134 _ _ _ _ hR hS _ (lv_sub hl [1, 2, 3, 4, 5, 6] rfl) hF
          · replace hF := z_cf hF hc31
            refine lv_aload_n S.1 S.2.1 dL_tick_110 rfl (lv_at hl 2 rfl) ?_
            refine lv_iload S.1 S.2.1 dL_tick_111 (lv_at hl 7 rfl) ?_
            refine lv_iconst (v := 4) S.1 S.2.1 dL_tick_113 (by decide) ?_
            refine lv_iadd S.1 S.2.1 dL_tick_114 ?_
            refine lv_aload_n S.1 S.2.1 dL_tick_115 rfl (lv_at hl 2 rfl) ?_
            refine lv_iload S.1 S.2.1 dL_tick_116 (lv_at hl 7 rfl) ?_
            refine lv_iconst (v := 4) S.1 S.2.1 dL_tick_118 (by decide) ?_
            refine lv_iadd S.1 S.2.1 dL_tick_119 ?_
            refine z_iald (k := kf1) (i := 0) (n := 48) S hK hR hF hk1 ha1 dL_tick_120 (fun hF => ?_)
            refine lv_ineg S.1 S.2.1 dL_tick_121 ?_
            refine z_iast (k := kf1) (i := 0) (n := 48) S hg hK hR hS hF hk1 ha1 dL_tick_122 (fun H locs M33 hR hS hF => ?_)
            refine lv_goto (tgt := 134) S.1 S.2.1 dL_tick_123 (by decide) ?_
            exact J134 _ _ _ _ hR hS _ (lv_sub hl [1, 2, 3, 4, 5, 6] rfl) hF
      refine lv_iload S.1 S.2.1 dL_tick_3 (lv_at hl 5 rfl) ?_
      refine lv_aload_n S.1 S.2.1 dL_tick_5 rfl (lv_at hl 0 rfl) ?_
      refine lv_iconst (v := 0) S.1 S.2.1 dL_tick_6 (by decide) ?_
      refine z_iald (k := kf0) (i := 0) (n := 4) S hK hR hF hk0 ha0 dL_tick_7 (fun hF => ?_)
      refine lv_icmp_ge (tgt := 140) S.1 S.2.1 dL_tick_8 (by decide) (fun hc21 => ?_) (fun hc21 => ?_)
      · replace hF := z_ct hF hc21
        exact hk _ _ _ _ hR hS _ (lv_sub hl [0, 1, 2, 3, 4, 5] rfl) hF
      · replace hF := z_cf hF hc21
        refine lv_bipush (v := 12) S.1 S.2.1 dL_tick_11 (by decide) ?_
        refine lv_iload S.1 S.2.1 dL_tick_13 (lv_at hl 5 rfl) ?_
        refine lv_imul S.1 S.2.1 dL_tick_15 ?_
        refine z_nm hF (fun v22 hF => ?_)
        refine lv_istore (lv' := [(6, .int v22), (0, .ref (g.1 kf0 0)), (1, .ref (g.1 kf1 0)), (2, .ref (g.1 kf2 0)), (3, .ref (g.1 kf3 0)), (4, .ref (g.1 kf4 0)), (5, .int a5)]) S.1 S.2.1 dL_tick_16 hl (by decide) rfl (fun ls hl => ?_)
        refine lv_aload_n S.1 S.2.1 dL_tick_18 rfl (lv_at hl 2 rfl) ?_
        refine lv_iload S.1 S.2.1 dL_tick_19 (lv_at hl 0 rfl) ?_
        refine lv_bipush (v := 8) S.1 S.2.1 dL_tick_21 (by decide) ?_
        refine lv_iadd S.1 S.2.1 dL_tick_23 ?_
        refine z_iald (k := kf1) (i := 0) (n := 48) S hK hR hF hk1 ha1 dL_tick_24 (fun hF => ?_)
        refine lv_if_eq (tgt := 31) S.1 S.2.1 dL_tick_25 (by decide) (fun hc23 => ?_) (fun hc23 => ?_)
        · replace hF := z_ct hF hc23
          refine lv_aload_n S.1 S.2.1 dL_tick_31 rfl (lv_at hl 2 rfl) ?_
          refine lv_iload S.1 S.2.1 dL_tick_32 (lv_at hl 0 rfl) ?_
          refine lv_iconst (v := 1) S.1 S.2.1 dL_tick_34 (by decide) ?_
          refine lv_iadd S.1 S.2.1 dL_tick_35 ?_
          refine z_iald (k := kf1) (i := 0) (n := 48) S hK hR hF hk1 ha1 dL_tick_36 (fun hF => ?_)
          refine lv_aload_n S.1 S.2.1 dL_tick_37 rfl (lv_at hl 2 rfl) ?_
          refine lv_iload S.1 S.2.1 dL_tick_38 (lv_at hl 0 rfl) ?_
          refine lv_iconst (v := 3) S.1 S.2.1 dL_tick_40 (by decide) ?_
          refine lv_iadd S.1 S.2.1 dL_tick_41 ?_
          refine z_iald (k := kf1) (i := 0) (n := 48) S hK hR hF hk1 ha1 dL_tick_42 (fun hF => ?_)
          refine lv_iadd S.1 S.2.1 dL_tick_43 ?_
          refine z_nm hF (fun v24 hF => ?_)
          refine lv_istore (lv' := [(7, .int v24), (6, .int v22), (0, .ref (g.1 kf0 0)), (1, .ref (g.1 kf1 0)), (2, .ref (g.1 kf2 0)), (3, .ref (g.1 kf3 0)), (4, .ref (g.1 kf4 0)), (5, .int a5)]) S.1 S.2.1 dL_tick_44 hl (by decide) rfl (fun ls hl => ?_)
          refine lv_iload S.1 S.2.1 dL_tick_46 (lv_at hl 0 rfl) ?_
          refine lv_if_lt (tgt := 58) S.1 S.2.1 dL_tick_48 (by decide) (fun hc25 => ?_) (fun hc25 => ?_)
          · replace hF := z_ct hF hc25
            refine lv_aload_n S.1 S.2.1 dL_tick_58 rfl (lv_at hl 3 rfl) ?_
            refine lv_iload S.1 S.2.1 dL_tick_59 (lv_at hl 1 rfl) ?_
            refine lv_iconst (v := 3) S.1 S.2.1 dL_tick_61 (by decide) ?_
            refine lv_iadd S.1 S.2.1 dL_tick_62 ?_
            refine lv_aload_n S.1 S.2.1 dL_tick_63 rfl (lv_at hl 3 rfl) ?_
            refine lv_iload S.1 S.2.1 dL_tick_64 (lv_at hl 1 rfl) ?_
            refine lv_iconst (v := 3) S.1 S.2.1 dL_tick_66 (by decide) ?_
            refine lv_iadd S.1 S.2.1 dL_tick_67 ?_
            refine z_iald (k := kf1) (i := 0) (n := 48) S hK hR hF hk1 ha1 dL_tick_68 (fun hF => ?_)
            refine lv_ineg S.1 S.2.1 dL_tick_69 ?_
            refine z_iast (k := kf1) (i := 0) (n := 48) S hg hK hR hS hF hk1 ha1 dL_tick_70 (fun H locs M26 hR hS hF => ?_)
            refine lv_goto (tgt := 82) S.1 S.2.1 dL_tick_71 (by decide) ?_
            exact J82 _ _ _ _ _ hR hS _ (lv_sub hl [2, 3, 4, 5, 6, 7, 1] rfl) hF
          · replace hF := z_cf hF hc25
            refine lv_iload S.1 S.2.1 dL_tick_51 (lv_at hl 0 rfl) ?_
            refine lv_bipush (v := 63) S.1 S.2.1 dL_tick_53 (by decide) ?_
            refine lv_icmp_le (tgt := 74) S.1 S.2.1 dL_tick_55 (by decide) (fun hc34 => ?_) (fun hc34 => ?_)
            · replace hF := z_ct hF hc34
              refine lv_aload_n S.1 S.2.1 dL_tick_74 rfl (lv_at hl 3 rfl) ?_
              refine lv_iload S.1 S.2.1 dL_tick_75 (lv_at hl 1 rfl) ?_
              refine lv_iconst (v := 1) S.1 S.2.1 dL_tick_77 (by decide) ?_
              refine lv_iadd S.1 S.2.1 dL_tick_78 ?_
              refine lv_iload S.1 S.2.1 dL_tick_79 (lv_at hl 0 rfl) ?_
              refine z_iast (k := kf1) (i := 0) (n := 48) S hg hK hR hS hF hk1 ha1 dL_tick_81 (fun H locs M35 hR hS hF => ?_)
              exact J82 _ _ _ _ _ hR hS _ (lv_sub hl [2, 3, 4, 5, 6, 7, 1] rfl) hF
            · replace hF := z_cf hF hc34
              refine lv_aload_n S.1 S.2.1 dL_tick_58 rfl (lv_at hl 3 rfl) ?_
              refine lv_iload S.1 S.2.1 dL_tick_59 (lv_at hl 1 rfl) ?_
              refine lv_iconst (v := 3) S.1 S.2.1 dL_tick_61 (by decide) ?_
              refine lv_iadd S.1 S.2.1 dL_tick_62 ?_
              refine lv_aload_n S.1 S.2.1 dL_tick_63 rfl (lv_at hl 3 rfl) ?_
              refine lv_iload S.1 S.2.1 dL_tick_64 (lv_at hl 1 rfl) ?_
              refine lv_iconst (v := 3) S.1 S.2.1 dL_tick_66 (by decide) ?_
              refine lv_iadd S.1 S.2.1 dL_tick_67 ?_
              refine z_iald (k := kf1) (i := 0) (n := 48) S hK hR hF hk1 ha1 dL_tick_68 (fun hF => ?_)
              refine lv_ineg S.1 S.2.1 dL_tick_69 ?_
              refine z_iast (k := kf1) (i := 0) (n := 48) S hg hK hR hS hF hk1 ha1 dL_tick_70 (fun H locs M36 hR hS hF => ?_)
              refine lv_goto (tgt := 82) S.1 S.2.1 dL_tick_71 (by decide) ?_
              exact J82 _ _ _ _ _ hR hS _ (lv_sub hl [2, 3, 4, 5, 6, 7, 1] rfl) hF
        · replace hF := z_cf hF hc23
          refine lv_goto (tgt := 134) S.1 S.2.1 dL_tick_28 (by decide) ?_
          exact J134 _ _ _ _ hR hS _ (lv_sub hl [1, 2, 3, 4, 5, 6] rfl) hF
  have L154 : ∀ (k : zM → Int32 → Option (Int32 × zM)) (a5 : Int32), (∀ (M : zM) (a6 : Int32) (H : Heap) (locs : List Loc), zR g M H → va_S (zS z) s.heap H locs → ∀ ls : Array Slot, lv_has ls 10 [(0, .ref (g.1 kf0 0)), (1, .ref (g.1 kf1 0)), (2, .ref (g.1 kf2 0)), (3, .ref (g.1 kf3 0)), (4, .ref (g.1 kf4 0)), (5, .int a5), (6, .int a6)] → k M a6 = some (r, M') → W p l e { frames := 2, cells := 0, slots := 0, locals := 52 } s m ([.ref (g.1 kf0 0), .ref (g.1 kf1 0), .ref (g.1 kf2 0), .ref (g.1 kf3 0), .ref (g.1 kf4 0)] : List Value).toArray below meth c H locs 0 0 (MQ below (zQi g z r M') ([.ref (g.1 kf0 0), .ref (g.1 kf1 0), .ref (g.1 kf2 0), .ref (g.1 kf3 0), .ref (g.1 kf4 0)] : List Value).toArray s 0 0 (zS z)) (F0 m 257 ls [])) → ∀ (n : Nat) (M : zM) (a6 : Int32) (H : Heap) (locs : List Loc), zR g M H → va_S (zS z) s.heap H locs → ∀ ls : Array Slot, lv_has ls 10 [(0, .ref (g.1 kf0 0)), (1, .ref (g.1 kf1 0)), (2, .ref (g.1 kf2 0)), (3, .ref (g.1 kf3 0)), (4, .ref (g.1 kf4 0)), (5, .int a5), (6, .int a6)] → fL_tick_L154 k kf0 kf1 kf2 kf3 kf4 a5 n M a6 = some (r, M') → W p l e { frames := 2, cells := 0, slots := 0, locals := 52 } s m ([.ref (g.1 kf0 0), .ref (g.1 kf1 0), .ref (g.1 kf2 0), .ref (g.1 kf3 0), .ref (g.1 kf4 0)] : List Value).toArray below meth c H locs 0 0 (MQ below (zQi g z r M') ([.ref (g.1 kf0 0), .ref (g.1 kf1 0), .ref (g.1 kf2 0), .ref (g.1 kf3 0), .ref (g.1 kf4 0)] : List Value).toArray s 0 0 (zS z)) (F0 m 154 ls []) := by
    intro k a5 hk n
    induction n with
    | zero =>
      intro M a6 H locs hR hS ls hl hF
      cases hF
    | succ n ih =>
      intro M a6 H locs hR hS ls hl hF
      unfold fL_tick_L154 at hF
      have J251 : ∀ (M : zM) (a6 : Int32) (H : Heap) (locs : List Loc), zR g M H → va_S (zS z) s.heap H locs → ∀ ls : Array Slot, lv_has ls 10 [(0, .ref (g.1 kf0 0)), (1, .ref (g.1 kf1 0)), (2, .ref (g.1 kf2 0)), (3, .ref (g.1 kf3 0)), (4, .ref (g.1 kf4 0)), (5, .int a5), (6, .int a6)] → fL_tick_J251 (fL_tick_L154 k kf0 kf1 kf2 kf3 kf4 a5 n) k kf0 kf1 kf2 kf3 kf4 M a5 a6 = some (r, M') → W p l e { frames := 2, cells := 0, slots := 0, locals := 52 } s m ([.ref (g.1 kf0 0), .ref (g.1 kf1 0), .ref (g.1 kf2 0), .ref (g.1 kf3 0), .ref (g.1 kf4 0)] : List Value).toArray below meth c H locs 0 0 (MQ below (zQi g z r M') ([.ref (g.1 kf0 0), .ref (g.1 kf1 0), .ref (g.1 kf2 0), .ref (g.1 kf3 0), .ref (g.1 kf4 0)] : List Value).toArray s 0 0 (zS z)) (F0 m 251 ls []) := by
        intro M a6 H locs hR hS ls hl hF
        unfold fL_tick_J251 at hF
        obtain ⟨v47, ev47, hF⟩ := zL_out hF
        refine lv_iinc (v := v47) (lv' := [(6, .int v47), (0, .ref (g.1 kf0 0)), (1, .ref (g.1 kf1 0)), (2, .ref (g.1 kf2 0)), (3, .ref (g.1 kf3 0)), (4, .ref (g.1 kf4 0)), (5, .int a5)]) S.1 S.2.1 dL_tick_251 hl (k := 6) rfl (by rw [← ev47]; rfl) (by decide) rfl (fun ls hl => ?_)
        refine lv_goto (tgt := 154) S.1 S.2.1 dL_tick_254 (by decide) ?_
        exact ih _ _ _ _ hR hS _ (lv_sub hl [1, 2, 3, 4, 5, 6, 0] rfl) hF
      refine lv_iload S.1 S.2.1 dL_tick_154 (lv_at hl 6 rfl) ?_
      refine lv_aload_n S.1 S.2.1 dL_tick_156 rfl (lv_at hl 0 rfl) ?_
      refine lv_iconst (v := 0) S.1 S.2.1 dL_tick_157 (by decide) ?_
      refine z_iald (k := kf0) (i := 0) (n := 4) S hK hR hF hk0 ha0 dL_tick_158 (fun hF => ?_)
      refine lv_icmp_ge (tgt := 257) S.1 S.2.1 dL_tick_159 (by decide) (fun hc40 => ?_) (fun hc40 => ?_)
      · replace hF := z_ct hF hc40
        exact hk _ _ _ _ hR hS _ (lv_sub hl [0, 1, 2, 3, 4, 5, 6] rfl) hF
      · replace hF := z_cf hF hc40
        refine lv_aload S.1 S.2.1 dL_tick_162 (lv_at hl 4 rfl) ?_
        refine lv_iconst (v := 4) S.1 S.2.1 dL_tick_164 (by decide) ?_
        refine lv_iload S.1 S.2.1 dL_tick_165 (lv_at hl 5 rfl) ?_
        refine lv_imul S.1 S.2.1 dL_tick_167 ?_
        refine lv_iload S.1 S.2.1 dL_tick_168 (lv_at hl 6 rfl) ?_
        refine lv_iadd S.1 S.2.1 dL_tick_170 ?_
        refine lv_iload S.1 S.2.1 dL_tick_171 (lv_at hl 5 rfl) ?_
        refine lv_iload S.1 S.2.1 dL_tick_173 (lv_at hl 6 rfl) ?_
        refine lv_icmp_ne (tgt := 182) S.1 S.2.1 dL_tick_175 (by decide) (fun hc41 => ?_) (fun hc41 => ?_)
        · replace hF := z_cf hF hc41
          refine lv_iload S.1 S.2.1 dL_tick_182 (lv_at hl 5 rfl) ?_
          refine lv_iload S.1 S.2.1 dL_tick_184 (lv_at hl 6 rfl) ?_
          refine lv_aload_n S.1 S.2.1 dL_tick_186 rfl (lv_at hl 1 rfl) ?_
          refine z_goi hS hF (fun _ _ ho => va_runS (n := 3) (As := [.int a5, .int a6, .ref (g.1 kf1 0)]) (rest := [.int ((4 * a5) + a6), .ref (g.1 kf4 0)]) S (kL_place l hg hk1 ha1 ho) (va_cwS 3 S.2.2.2.2 (zgS wm_L_16 oL_place) rfl rfl rfl hL_place.2 ⟨Nat.le_of_ble_eq_true rfl, Nat.le_of_ble_eq_true rfl⟩) ⟨zPc_blind, z_pre hK hR⟩ rfl rfl hl.1 rfl (lv_room (Nat.le_of_ble_eq_true rfl)) dL_tick_187 ⟨Nat.zero_le _, Nat.zero_le _⟩) (fun r43 M42 H locs hR hS hF => ?_)
          refine z_iast (k := kf4) (i := 0) (n := 16) S hg hK hR hS hF hk4 ha4 dL_tick_190 (fun H locs M44 hR hS hF => ?_)
          refine lv_aload S.1 S.2.1 dL_tick_191 (lv_at hl 4 rfl) ?_
          refine lv_iconst (v := 4) S.1 S.2.1 dL_tick_193 (by decide) ?_
          refine lv_iload S.1 S.2.1 dL_tick_194 (lv_at hl 5 rfl) ?_
          refine lv_imul S.1 S.2.1 dL_tick_196 ?_
          refine lv_iload S.1 S.2.1 dL_tick_197 (lv_at hl 6 rfl) ?_
          refine lv_iadd S.1 S.2.1 dL_tick_199 ?_
          refine z_iald (k := kf4) (i := 0) (n := 16) S hK hR hF hk4 ha4 dL_tick_200 (fun hF => ?_)
          refine z_nm hF (fun v45 hF => ?_)
          refine lv_istore (lv' := [(7, .int v45), (0, .ref (g.1 kf0 0)), (1, .ref (g.1 kf1 0)), (2, .ref (g.1 kf2 0)), (3, .ref (g.1 kf3 0)), (4, .ref (g.1 kf4 0)), (5, .int a5), (6, .int a6)]) S.1 S.2.1 dL_tick_201 hl (by decide) rfl (fun ls hl => ?_)
          refine lv_iload S.1 S.2.1 dL_tick_203 (lv_at hl 0 rfl) ?_
          refine lv_if_lt (tgt := 251) S.1 S.2.1 dL_tick_205 (by decide) (fun hc46 => ?_) (fun hc46 => ?_)
          · replace hF := z_ct hF hc46
            exact J251 _ _ _ _ hR hS _ (lv_sub hl [1, 2, 3, 4, 5, 6, 7] rfl) hF
          · replace hF := z_cf hF hc46
            refine lv_iload S.1 S.2.1 dL_tick_208 (lv_at hl 6 rfl) ?_
            refine lv_iload S.1 S.2.1 dL_tick_210 (lv_at hl 0 rfl) ?_
            refine lv_bipush (v := 64) S.1 S.2.1 dL_tick_212 (by decide) ?_
            refine z_irem S.1 S.2.1 dL_tick_214 (by decide) ?_
            refine lv_aload_n S.1 S.2.1 dL_tick_215 rfl (lv_at hl 2 rfl) ?_
            refine lv_bipush (v := 12) S.1 S.2.1 dL_tick_216 (by decide) ?_
            refine lv_iload S.1 S.2.1 dL_tick_218 (lv_at hl 7 rfl) ?_
            refine lv_imul S.1 S.2.1 dL_tick_220 ?_
            refine lv_iconst (v := 5) S.1 S.2.1 dL_tick_221 (by decide) ?_
            refine lv_iadd S.1 S.2.1 dL_tick_222 ?_
            refine z_iald (k := kf1) (i := 0) (n := 48) S hK hR hF hk1 ha1 dL_tick_223 (fun hF => ?_)
            refine lv_iload S.1 S.2.1 dL_tick_224 (lv_at hl 6 rfl) ?_
            refine lv_iload S.1 S.2.1 dL_tick_226 (lv_at hl 7 rfl) ?_
            refine lv_aload_n S.1 S.2.1 dL_tick_228 rfl (lv_at hl 2 rfl) ?_
            refine z_goi hS hF (fun _ _ ho => va_runS (n := 3) (As := [.int a5, .int a6, .ref (g.1 kf1 0)]) (rest := [.int (M44 kf1 0 (zN ((12 * a6) + 5))), .int (zir v45 64), .int a5]) S (kL_sliding l hg hk1 ha1 ho) (va_cwS 3 S.2.2.2.2 (zgS wm_L_20 oL_sliding) rfl rfl rfl hL_sliding.2 ⟨Nat.le_of_ble_eq_true rfl, Nat.le_of_ble_eq_true rfl⟩) ⟨zPc_blind, z_pre hK hR⟩ rfl rfl hl.1 rfl (lv_room (Nat.le_of_ble_eq_true rfl)) dL_tick_229 ⟨Nat.zero_le _, Nat.zero_le _⟩) (fun r49 M48 H locs hR hS hF => ?_)
            refine lv_imul S.1 S.2.1 dL_tick_232 ?_
            refine lv_iload S.1 S.2.1 dL_tick_233 (lv_at hl 0 rfl) ?_
            refine lv_bipush (v := 63) S.1 S.2.1 dL_tick_235 (by decide) ?_
            refine lv_icmp_le (tgt := 244) S.1 S.2.1 dL_tick_237 (by decide) (fun hc50 => ?_) (fun hc50 => ?_)
            · replace hF := z_ct hF hc50
              refine lv_iconst (v := 1) S.1 S.2.1 dL_tick_244 (by decide) ?_
              refine lv_imul S.1 S.2.1 dL_tick_245 ?_
              refine lv_aload_n S.1 S.2.1 dL_tick_246 rfl (lv_at hl 3 rfl) ?_
              refine lv_aload_n S.1 S.2.1 dL_tick_247 rfl (lv_at hl 4 rfl) ?_
              refine z_gov hS hF (fun _ _ ho => va_runS (n := 5) (As := [.int a5, .int (zir v45 64), .int (((M44 kf1 0 (zN ((12 * a6) + 5))) * r49) * 1), .ref (g.1 kf2 0), .ref (g.1 kf3 0)]) (rest := []) S (kL_wear l hg hk2 ha2 hk3 ha3 ho) (va_cwS 5 S.2.2.2.2 (zgS wm_L_23 oL_wear) rfl rfl rfl hL_wear.2 ⟨Nat.le_of_ble_eq_true rfl, Nat.le_of_ble_eq_true rfl⟩) ⟨zPc_blind, z_pre hK hR⟩ rfl rfl hl.1 rfl (lv_room (Nat.le_of_ble_eq_true rfl)) dL_tick_248 ⟨Nat.zero_le _, Nat.zero_le _⟩) (fun M51 H locs hR hS hF => ?_)
              exact J251 _ _ _ _ hR hS _ (lv_sub hl [1, 2, 3, 4, 5, 6, 7] rfl) hF
            · replace hF := z_cf hF hc50
              refine lv_iconst (v := 2) S.1 S.2.1 dL_tick_240 (by decide) ?_
              refine lv_goto (tgt := 245) S.1 S.2.1 dL_tick_241 (by decide) ?_
              refine lv_imul S.1 S.2.1 dL_tick_245 ?_
              refine lv_aload_n S.1 S.2.1 dL_tick_246 rfl (lv_at hl 3 rfl) ?_
              refine lv_aload_n S.1 S.2.1 dL_tick_247 rfl (lv_at hl 4 rfl) ?_
              refine z_gov hS hF (fun _ _ ho => va_runS (n := 5) (As := [.int a5, .int (zir v45 64), .int (((M44 kf1 0 (zN ((12 * a6) + 5))) * r49) * 2), .ref (g.1 kf2 0), .ref (g.1 kf3 0)]) (rest := []) S (kL_wear l hg hk2 ha2 hk3 ha3 ho) (va_cwS 5 S.2.2.2.2 (zgS wm_L_23 oL_wear) rfl rfl rfl hL_wear.2 ⟨Nat.le_of_ble_eq_true rfl, Nat.le_of_ble_eq_true rfl⟩) ⟨zPc_blind, z_pre hK hR⟩ rfl rfl hl.1 rfl (lv_room (Nat.le_of_ble_eq_true rfl)) dL_tick_248 ⟨Nat.zero_le _, Nat.zero_le _⟩) (fun M52 H locs hR hS hF => ?_)
              exact J251 _ _ _ _ hR hS _ (lv_sub hl [1, 2, 3, 4, 5, 6, 7] rfl) hF
        · replace hF := z_ct hF hc41
          refine lv_iconst (v := (-1)) S.1 S.2.1 dL_tick_178 (by decide) ?_
          refine lv_goto (tgt := 190) S.1 S.2.1 dL_tick_179 (by decide) ?_
          refine z_iast (k := kf4) (i := 0) (n := 16) S hg hK hR hS hF hk4 ha4 dL_tick_190 (fun H locs M53 hR hS hF => ?_)
          refine lv_aload S.1 S.2.1 dL_tick_191 (lv_at hl 4 rfl) ?_
          refine lv_iconst (v := 4) S.1 S.2.1 dL_tick_193 (by decide) ?_
          refine lv_iload S.1 S.2.1 dL_tick_194 (lv_at hl 5 rfl) ?_
          refine lv_imul S.1 S.2.1 dL_tick_196 ?_
          refine lv_iload S.1 S.2.1 dL_tick_197 (lv_at hl 6 rfl) ?_
          refine lv_iadd S.1 S.2.1 dL_tick_199 ?_
          refine z_iald (k := kf4) (i := 0) (n := 16) S hK hR hF hk4 ha4 dL_tick_200 (fun hF => ?_)
          refine z_nm hF (fun v54 hF => ?_)
          refine lv_istore (lv' := [(7, .int v54), (0, .ref (g.1 kf0 0)), (1, .ref (g.1 kf1 0)), (2, .ref (g.1 kf2 0)), (3, .ref (g.1 kf3 0)), (4, .ref (g.1 kf4 0)), (5, .int a5), (6, .int a6)]) S.1 S.2.1 dL_tick_201 hl (by decide) rfl (fun ls hl => ?_)
          refine lv_iload S.1 S.2.1 dL_tick_203 (lv_at hl 0 rfl) ?_
          refine lv_if_lt (tgt := 251) S.1 S.2.1 dL_tick_205 (by decide) (fun hc55 => ?_) (fun hc55 => ?_)
          · replace hF := z_ct hF hc55
            exact J251 _ _ _ _ hR hS _ (lv_sub hl [1, 2, 3, 4, 5, 6, 7] rfl) hF
          · replace hF := z_cf hF hc55
            refine lv_iload S.1 S.2.1 dL_tick_208 (lv_at hl 6 rfl) ?_
            refine lv_iload S.1 S.2.1 dL_tick_210 (lv_at hl 0 rfl) ?_
            refine lv_bipush (v := 64) S.1 S.2.1 dL_tick_212 (by decide) ?_
            refine z_irem S.1 S.2.1 dL_tick_214 (by decide) ?_
            refine lv_aload_n S.1 S.2.1 dL_tick_215 rfl (lv_at hl 2 rfl) ?_
            refine lv_bipush (v := 12) S.1 S.2.1 dL_tick_216 (by decide) ?_
            refine lv_iload S.1 S.2.1 dL_tick_218 (lv_at hl 7 rfl) ?_
            refine lv_imul S.1 S.2.1 dL_tick_220 ?_
            refine lv_iconst (v := 5) S.1 S.2.1 dL_tick_221 (by decide) ?_
            refine lv_iadd S.1 S.2.1 dL_tick_222 ?_
            refine z_iald (k := kf1) (i := 0) (n := 48) S hK hR hF hk1 ha1 dL_tick_223 (fun hF => ?_)
            refine lv_iload S.1 S.2.1 dL_tick_224 (lv_at hl 6 rfl) ?_
            refine lv_iload S.1 S.2.1 dL_tick_226 (lv_at hl 7 rfl) ?_
            refine lv_aload_n S.1 S.2.1 dL_tick_228 rfl (lv_at hl 2 rfl) ?_
            refine z_goi hS hF (fun _ _ ho => va_runS (n := 3) (As := [.int a5, .int a6, .ref (g.1 kf1 0)]) (rest := [.int (M53 kf1 0 (zN ((12 * a6) + 5))), .int (zir v54 64), .int a5]) S (kL_sliding l hg hk1 ha1 ho) (va_cwS 3 S.2.2.2.2 (zgS wm_L_20 oL_sliding) rfl rfl rfl hL_sliding.2 ⟨Nat.le_of_ble_eq_true rfl, Nat.le_of_ble_eq_true rfl⟩) ⟨zPc_blind, z_pre hK hR⟩ rfl rfl hl.1 rfl (lv_room (Nat.le_of_ble_eq_true rfl)) dL_tick_229 ⟨Nat.zero_le _, Nat.zero_le _⟩) (fun r57 M56 H locs hR hS hF => ?_)
            refine lv_imul S.1 S.2.1 dL_tick_232 ?_
            refine lv_iload S.1 S.2.1 dL_tick_233 (lv_at hl 0 rfl) ?_
            refine lv_bipush (v := 63) S.1 S.2.1 dL_tick_235 (by decide) ?_
            refine lv_icmp_le (tgt := 244) S.1 S.2.1 dL_tick_237 (by decide) (fun hc58 => ?_) (fun hc58 => ?_)
            · replace hF := z_ct hF hc58
              refine lv_iconst (v := 1) S.1 S.2.1 dL_tick_244 (by decide) ?_
              refine lv_imul S.1 S.2.1 dL_tick_245 ?_
              refine lv_aload_n S.1 S.2.1 dL_tick_246 rfl (lv_at hl 3 rfl) ?_
              refine lv_aload_n S.1 S.2.1 dL_tick_247 rfl (lv_at hl 4 rfl) ?_
              refine z_gov hS hF (fun _ _ ho => va_runS (n := 5) (As := [.int a5, .int (zir v54 64), .int (((M53 kf1 0 (zN ((12 * a6) + 5))) * r57) * 1), .ref (g.1 kf2 0), .ref (g.1 kf3 0)]) (rest := []) S (kL_wear l hg hk2 ha2 hk3 ha3 ho) (va_cwS 5 S.2.2.2.2 (zgS wm_L_23 oL_wear) rfl rfl rfl hL_wear.2 ⟨Nat.le_of_ble_eq_true rfl, Nat.le_of_ble_eq_true rfl⟩) ⟨zPc_blind, z_pre hK hR⟩ rfl rfl hl.1 rfl (lv_room (Nat.le_of_ble_eq_true rfl)) dL_tick_248 ⟨Nat.zero_le _, Nat.zero_le _⟩) (fun M59 H locs hR hS hF => ?_)
              exact J251 _ _ _ _ hR hS _ (lv_sub hl [1, 2, 3, 4, 5, 6, 7] rfl) hF
            · replace hF := z_cf hF hc58
              refine lv_iconst (v := 2) S.1 S.2.1 dL_tick_240 (by decide) ?_
              refine lv_goto (tgt := 245) S.1 S.2.1 dL_tick_241 (by decide) ?_
              refine lv_imul S.1 S.2.1 dL_tick_245 ?_
              refine lv_aload_n S.1 S.2.1 dL_tick_246 rfl (lv_at hl 3 rfl) ?_
              refine lv_aload_n S.1 S.2.1 dL_tick_247 rfl (lv_at hl 4 rfl) ?_
              refine z_gov hS hF (fun _ _ ho => va_runS (n := 5) (As := [.int a5, .int (zir v54 64), .int (((M53 kf1 0 (zN ((12 * a6) + 5))) * r57) * 2), .ref (g.1 kf2 0), .ref (g.1 kf3 0)]) (rest := []) S (kL_wear l hg hk2 ha2 hk3 ha3 ho) (va_cwS 5 S.2.2.2.2 (zgS wm_L_23 oL_wear) rfl rfl rfl hL_wear.2 ⟨Nat.le_of_ble_eq_true rfl, Nat.le_of_ble_eq_true rfl⟩) ⟨zPc_blind, z_pre hK hR⟩ rfl rfl hl.1 rfl (lv_room (Nat.le_of_ble_eq_true rfl)) dL_tick_248 ⟨Nat.zero_le _, Nat.zero_le _⟩) (fun M60 H locs hR hS hF => ?_)
              exact J251 _ _ _ _ hR hS _ (lv_sub hl [1, 2, 3, 4, 5, 6, 7] rfl) hF
  have L143 : ∀ (k : zM → Int32 → Option (Int32 × zM)) , (∀ (M : zM) (a5 : Int32) (H : Heap) (locs : List Loc), zR g M H → va_S (zS z) s.heap H locs → ∀ ls : Array Slot, lv_has ls 10 [(0, .ref (g.1 kf0 0)), (1, .ref (g.1 kf1 0)), (2, .ref (g.1 kf2 0)), (3, .ref (g.1 kf3 0)), (4, .ref (g.1 kf4 0)), (5, .int a5)] → k M a5 = some (r, M') → W p l e { frames := 2, cells := 0, slots := 0, locals := 52 } s m ([.ref (g.1 kf0 0), .ref (g.1 kf1 0), .ref (g.1 kf2 0), .ref (g.1 kf3 0), .ref (g.1 kf4 0)] : List Value).toArray below meth c H locs 0 0 (MQ below (zQi g z r M') ([.ref (g.1 kf0 0), .ref (g.1 kf1 0), .ref (g.1 kf2 0), .ref (g.1 kf3 0), .ref (g.1 kf4 0)] : List Value).toArray s 0 0 (zS z)) (F0 m 263 ls [])) → ∀ (n : Nat) (M : zM) (a5 : Int32) (H : Heap) (locs : List Loc), zR g M H → va_S (zS z) s.heap H locs → ∀ ls : Array Slot, lv_has ls 10 [(0, .ref (g.1 kf0 0)), (1, .ref (g.1 kf1 0)), (2, .ref (g.1 kf2 0)), (3, .ref (g.1 kf3 0)), (4, .ref (g.1 kf4 0)), (5, .int a5)] → fL_tick_L143 k kf0 kf1 kf2 kf3 kf4 n M a5 = some (r, M') → W p l e { frames := 2, cells := 0, slots := 0, locals := 52 } s m ([.ref (g.1 kf0 0), .ref (g.1 kf1 0), .ref (g.1 kf2 0), .ref (g.1 kf3 0), .ref (g.1 kf4 0)] : List Value).toArray below meth c H locs 0 0 (MQ below (zQi g z r M') ([.ref (g.1 kf0 0), .ref (g.1 kf1 0), .ref (g.1 kf2 0), .ref (g.1 kf3 0), .ref (g.1 kf4 0)] : List Value).toArray s 0 0 (zS z)) (F0 m 143 ls []) := by
    intro k  hk n
    induction n with
    | zero =>
      intro M a5 H locs hR hS ls hl hF
      cases hF
    | succ n ih =>
      intro M a5 H locs hR hS ls hl hF
      unfold fL_tick_L143 at hF
      refine lv_iload S.1 S.2.1 dL_tick_143 (lv_at hl 5 rfl) ?_
      refine lv_aload_n S.1 S.2.1 dL_tick_145 rfl (lv_at hl 0 rfl) ?_
      refine lv_iconst (v := 0) S.1 S.2.1 dL_tick_146 (by decide) ?_
      refine z_iald (k := kf0) (i := 0) (n := 4) S hK hR hF hk0 ha0 dL_tick_147 (fun hF => ?_)
      refine lv_icmp_ge (tgt := 263) S.1 S.2.1 dL_tick_148 (by decide) (fun hc39 => ?_) (fun hc39 => ?_)
      · replace hF := z_ct hF hc39
        exact hk _ _ _ _ hR hS _ (lv_sub hl [0, 1, 2, 3, 4, 5] rfl) hF
      · replace hF := z_cf hF hc39
        refine lv_iconst (v := 0) S.1 S.2.1 dL_tick_151 (by decide) ?_
        refine lv_istore (lv' := [(6, .int 0), (0, .ref (g.1 kf0 0)), (1, .ref (g.1 kf1 0)), (2, .ref (g.1 kf2 0)), (3, .ref (g.1 kf3 0)), (4, .ref (g.1 kf4 0)), (5, .int a5)]) S.1 S.2.1 dL_tick_152 hl (by decide) rfl (fun ls hl => ?_)
        refine L154 _ _ (fun M61 v62 H locs hR hS ls hl hF => ?_) _ _ _ _ _ hR hS _ (lv_sub hl [1, 2, 3, 4, 5, 6, 0] rfl) hF
        obtain ⟨v63, ev63, hF⟩ := zL_out hF
        refine lv_iinc (v := v63) (lv' := [(5, .int v63), (0, .ref (g.1 kf0 0)), (1, .ref (g.1 kf1 0)), (2, .ref (g.1 kf2 0)), (3, .ref (g.1 kf3 0)), (4, .ref (g.1 kf4 0)), (6, .int v62)]) S.1 S.2.1 dL_tick_257 hl (k := 5) rfl (by rw [← ev63]; rfl) (by decide) rfl (fun ls hl => ?_)
        refine lv_goto (tgt := 143) S.1 S.2.1 dL_tick_260 (by decide) ?_
        exact ih _ _ _ _ hR hS _ (lv_sub hl [1, 2, 3, 4, 5, 0] rfl) hF
  have L283 : ∀ (k : zM → Int32 → Int32 → Option (Int32 × zM)) (a6 : Int32) (a7 : Int32), (∀ (M : zM) (a5 : Int32) (a8 : Int32) (H : Heap) (locs : List Loc), zR g M H → va_S (zS z) s.heap H locs → ∀ ls : Array Slot, lv_has ls 10 [(0, .ref (g.1 kf0 0)), (1, .ref (g.1 kf1 0)), (2, .ref (g.1 kf2 0)), (3, .ref (g.1 kf3 0)), (4, .ref (g.1 kf4 0)), (5, .int a5), (6, .int a6), (7, .int a7), (8, .int a8)] → k M a5 a8 = some (r, M') → W p l e { frames := 2, cells := 0, slots := 0, locals := 52 } s m ([.ref (g.1 kf0 0), .ref (g.1 kf1 0), .ref (g.1 kf2 0), .ref (g.1 kf3 0), .ref (g.1 kf4 0)] : List Value).toArray below meth c H locs 0 0 (MQ below (zQi g z r M') ([.ref (g.1 kf0 0), .ref (g.1 kf1 0), .ref (g.1 kf2 0), .ref (g.1 kf3 0), .ref (g.1 kf4 0)] : List Value).toArray s 0 0 (zS z)) (F0 m 344 ls [])) → ∀ (n : Nat) (M : zM) (a5 : Int32) (a8 : Int32) (H : Heap) (locs : List Loc), zR g M H → va_S (zS z) s.heap H locs → ∀ ls : Array Slot, lv_has ls 10 [(0, .ref (g.1 kf0 0)), (1, .ref (g.1 kf1 0)), (2, .ref (g.1 kf2 0)), (3, .ref (g.1 kf3 0)), (4, .ref (g.1 kf4 0)), (5, .int a5), (6, .int a6), (7, .int a7), (8, .int a8)] → fL_tick_L283 k kf0 kf1 kf2 kf3 kf4 a6 a7 n M a5 a8 = some (r, M') → W p l e { frames := 2, cells := 0, slots := 0, locals := 52 } s m ([.ref (g.1 kf0 0), .ref (g.1 kf1 0), .ref (g.1 kf2 0), .ref (g.1 kf3 0), .ref (g.1 kf4 0)] : List Value).toArray below meth c H locs 0 0 (MQ below (zQi g z r M') ([.ref (g.1 kf0 0), .ref (g.1 kf1 0), .ref (g.1 kf2 0), .ref (g.1 kf3 0), .ref (g.1 kf4 0)] : List Value).toArray s 0 0 (zS z)) (F0 m 283 ls []) := by
    intro k a6 a7 hk n
    induction n with
    | zero =>
      intro M a5 a8 H locs hR hS ls hl hF
      cases hF
    | succ n ih =>
      intro M a5 a8 H locs hR hS ls hl hF
      unfold fL_tick_L283 at hF
      have J338 : ∀ (M : zM) (a5 : Int32) (a8 : Int32) (H : Heap) (locs : List Loc), zR g M H → va_S (zS z) s.heap H locs → ∀ ls : Array Slot, lv_has ls 10 [(0, .ref (g.1 kf0 0)), (1, .ref (g.1 kf1 0)), (2, .ref (g.1 kf2 0)), (3, .ref (g.1 kf3 0)), (4, .ref (g.1 kf4 0)), (5, .int a5), (6, .int a6), (7, .int a7), (8, .int a8)] → fL_tick_J338 (fL_tick_L283 k kf0 kf1 kf2 kf3 kf4 a6 a7 n) k kf0 kf1 kf2 kf3 kf4 M a5 a6 a7 a8 = some (r, M') → W p l e { frames := 2, cells := 0, slots := 0, locals := 52 } s m ([.ref (g.1 kf0 0), .ref (g.1 kf1 0), .ref (g.1 kf2 0), .ref (g.1 kf3 0), .ref (g.1 kf4 0)] : List Value).toArray below meth c H locs 0 0 (MQ below (zQi g z r M') ([.ref (g.1 kf0 0), .ref (g.1 kf1 0), .ref (g.1 kf2 0), .ref (g.1 kf3 0), .ref (g.1 kf4 0)] : List Value).toArray s 0 0 (zS z)) (F0 m 338 ls []) := by
        intro M a5 a8 H locs hR hS ls hl hF
        unfold fL_tick_J338 at hF
        obtain ⟨v70, ev70, hF⟩ := zL_out hF
        refine lv_iinc (v := v70) (lv' := [(8, .int v70), (0, .ref (g.1 kf0 0)), (1, .ref (g.1 kf1 0)), (2, .ref (g.1 kf2 0)), (3, .ref (g.1 kf3 0)), (4, .ref (g.1 kf4 0)), (5, .int a5), (6, .int a6), (7, .int a7)]) S.1 S.2.1 dL_tick_338 hl (k := 8) rfl (by rw [← ev70]; rfl) (by decide) rfl (fun ls hl => ?_)
        refine lv_goto (tgt := 283) S.1 S.2.1 dL_tick_341 (by decide) ?_
        exact ih _ _ _ _ _ hR hS _ (lv_sub hl [1, 2, 3, 4, 5, 6, 7, 8, 0] rfl) hF
      refine lv_iload S.1 S.2.1 dL_tick_283 (lv_at hl 8 rfl) ?_
      refine lv_bipush (v := 32) S.1 S.2.1 dL_tick_285 (by decide) ?_
      refine lv_icmp_ge (tgt := 344) S.1 S.2.1 dL_tick_287 (by decide) (fun hc67 => ?_) (fun hc67 => ?_)
      · replace hF := z_ct hF hc67
        exact hk _ _ _ _ _ hR hS _ (lv_sub hl [0, 1, 2, 3, 4, 5, 6, 7, 8] rfl) hF
      · replace hF := z_cf hF hc67
        refine lv_iload S.1 S.2.1 dL_tick_290 (lv_at hl 5 rfl) ?_
        refine lv_aload_n S.1 S.2.1 dL_tick_292 rfl (lv_at hl 1 rfl) ?_
        refine lv_bipush (v := 12) S.1 S.2.1 dL_tick_293 (by decide) ?_
        refine lv_iload S.1 S.2.1 dL_tick_295 (lv_at hl 7 rfl) ?_
        refine lv_imul S.1 S.2.1 dL_tick_297 ?_
        refine lv_bipush (v := 8) S.1 S.2.1 dL_tick_298 (by decide) ?_
        refine lv_iadd S.1 S.2.1 dL_tick_300 ?_
        refine z_iald (k := kf1) (i := 0) (n := 48) S hK hR hF hk1 ha1 dL_tick_301 (fun hF => ?_)
        refine lv_if_ne (tgt := 334) S.1 S.2.1 dL_tick_302 (by decide) (fun hc68 => ?_) (fun hc68 => ?_)
        · replace hF := z_cf hF hc68
          refine lv_iconst (v := 0) S.1 S.2.1 dL_tick_334 (by decide) ?_
          refine lv_ior S.1 S.2.1 dL_tick_335 ?_
          refine z_nm hF (fun v69 hF => ?_)
          refine lv_istore (lv' := [(5, .int v69), (0, .ref (g.1 kf0 0)), (1, .ref (g.1 kf1 0)), (2, .ref (g.1 kf2 0)), (3, .ref (g.1 kf3 0)), (4, .ref (g.1 kf4 0)), (6, .int a6), (7, .int a7), (8, .int a8)]) S.1 S.2.1 dL_tick_336 hl (by decide) rfl (fun ls hl => ?_)
          exact J338 _ _ _ _ _ hR hS _ (lv_sub hl [1, 2, 3, 4, 5, 0, 6, 7, 8] rfl) hF
        · replace hF := z_ct hF hc68
          refine lv_iload S.1 S.2.1 dL_tick_305 (lv_at hl 7 rfl) ?_
          refine lv_iload S.1 S.2.1 dL_tick_307 (lv_at hl 8 rfl) ?_
          refine lv_aload_n S.1 S.2.1 dL_tick_309 rfl (lv_at hl 2 rfl) ?_
          refine lv_aload_n S.1 S.2.1 dL_tick_310 rfl (lv_at hl 3 rfl) ?_
          refine z_goi hS hF (fun _ _ ho => va_runS (n := 4) (As := [.int a7, .int a8, .ref (g.1 kf2 0), .ref (g.1 kf3 0)]) (rest := [.int a5]) S (kL_worn l hg hk2 ha2 hk3 ha3 ho) (va_cwS 4 S.2.2.2.2 (zgS wm_L_27 oL_worn) rfl rfl rfl hL_worn.2 ⟨Nat.le_of_ble_eq_true rfl, Nat.le_of_ble_eq_true rfl⟩) ⟨zPc_blind, z_pre hK hR⟩ rfl rfl hl.1 rfl (lv_room (Nat.le_of_ble_eq_true rfl)) dL_tick_311 ⟨Nat.zero_le _, Nat.zero_le _⟩) (fun r72 M71 H locs hR hS hF => ?_)
          refine lv_aload_n S.1 S.2.1 dL_tick_314 rfl (lv_at hl 1 rfl) ?_
          refine lv_bipush (v := 12) S.1 S.2.1 dL_tick_315 (by decide) ?_
          refine lv_iload S.1 S.2.1 dL_tick_317 (lv_at hl 7 rfl) ?_
          refine lv_imul S.1 S.2.1 dL_tick_319 ?_
          refine lv_bipush (v := 6) S.1 S.2.1 dL_tick_320 (by decide) ?_
          refine lv_iadd S.1 S.2.1 dL_tick_322 ?_
          refine z_iald (k := kf1) (i := 0) (n := 48) S hK hR hF hk1 ha1 dL_tick_323 (fun hF => ?_)
          refine lv_icmp_lt (tgt := 334) S.1 S.2.1 dL_tick_324 (by decide) (fun hc73 => ?_) (fun hc73 => ?_)
          · replace hF := z_ct hF hc73
            refine lv_iconst (v := 0) S.1 S.2.1 dL_tick_334 (by decide) ?_
            refine lv_ior S.1 S.2.1 dL_tick_335 ?_
            refine z_nm hF (fun v74 hF => ?_)
            refine lv_istore (lv' := [(5, .int v74), (0, .ref (g.1 kf0 0)), (1, .ref (g.1 kf1 0)), (2, .ref (g.1 kf2 0)), (3, .ref (g.1 kf3 0)), (4, .ref (g.1 kf4 0)), (6, .int a6), (7, .int a7), (8, .int a8)]) S.1 S.2.1 dL_tick_336 hl (by decide) rfl (fun ls hl => ?_)
            exact J338 _ _ _ _ _ hR hS _ (lv_sub hl [1, 2, 3, 4, 5, 0, 6, 7, 8] rfl) hF
          · replace hF := z_cf hF hc73
            refine lv_iconst (v := 1) S.1 S.2.1 dL_tick_327 (by decide) ?_
            refine lv_iload S.1 S.2.1 dL_tick_328 (lv_at hl 7 rfl) ?_
            refine lv_ishl S.1 S.2.1 dL_tick_330 ?_
            refine lv_goto (tgt := 335) S.1 S.2.1 dL_tick_331 (by decide) ?_
            refine lv_ior S.1 S.2.1 dL_tick_335 ?_
            refine z_nm hF (fun v75 hF => ?_)
            refine lv_istore (lv' := [(5, .int v75), (0, .ref (g.1 kf0 0)), (1, .ref (g.1 kf1 0)), (2, .ref (g.1 kf2 0)), (3, .ref (g.1 kf3 0)), (4, .ref (g.1 kf4 0)), (6, .int a6), (7, .int a7), (8, .int a8)]) S.1 S.2.1 dL_tick_336 hl (by decide) rfl (fun ls hl => ?_)
            exact J338 _ _ _ _ _ hR hS _ (lv_sub hl [1, 2, 3, 4, 5, 0, 6, 7, 8] rfl) hF
  have L272 : ∀ (k : zM → Int32 → Int32 → Option (Int32 × zM)) (a6 : Int32), (∀ (M : zM) (a5 : Int32) (a7 : Int32) (H : Heap) (locs : List Loc), zR g M H → va_S (zS z) s.heap H locs → ∀ ls : Array Slot, lv_has ls 10 [(0, .ref (g.1 kf0 0)), (1, .ref (g.1 kf1 0)), (2, .ref (g.1 kf2 0)), (3, .ref (g.1 kf3 0)), (4, .ref (g.1 kf4 0)), (5, .int a5), (6, .int a6), (7, .int a7)] → k M a5 a7 = some (r, M') → W p l e { frames := 2, cells := 0, slots := 0, locals := 52 } s m ([.ref (g.1 kf0 0), .ref (g.1 kf1 0), .ref (g.1 kf2 0), .ref (g.1 kf3 0), .ref (g.1 kf4 0)] : List Value).toArray below meth c H locs 0 0 (MQ below (zQi g z r M') ([.ref (g.1 kf0 0), .ref (g.1 kf1 0), .ref (g.1 kf2 0), .ref (g.1 kf3 0), .ref (g.1 kf4 0)] : List Value).toArray s 0 0 (zS z)) (F0 m 350 ls [])) → ∀ (n : Nat) (M : zM) (a5 : Int32) (a7 : Int32) (H : Heap) (locs : List Loc), zR g M H → va_S (zS z) s.heap H locs → ∀ ls : Array Slot, lv_has ls 10 [(0, .ref (g.1 kf0 0)), (1, .ref (g.1 kf1 0)), (2, .ref (g.1 kf2 0)), (3, .ref (g.1 kf3 0)), (4, .ref (g.1 kf4 0)), (5, .int a5), (6, .int a6), (7, .int a7)] → fL_tick_L272 k kf0 kf1 kf2 kf3 kf4 a6 n M a5 a7 = some (r, M') → W p l e { frames := 2, cells := 0, slots := 0, locals := 52 } s m ([.ref (g.1 kf0 0), .ref (g.1 kf1 0), .ref (g.1 kf2 0), .ref (g.1 kf3 0), .ref (g.1 kf4 0)] : List Value).toArray below meth c H locs 0 0 (MQ below (zQi g z r M') ([.ref (g.1 kf0 0), .ref (g.1 kf1 0), .ref (g.1 kf2 0), .ref (g.1 kf3 0), .ref (g.1 kf4 0)] : List Value).toArray s 0 0 (zS z)) (F0 m 272 ls []) := by
    intro k a6 hk n
    induction n with
    | zero =>
      intro M a5 a7 H locs hR hS ls hl hF
      cases hF
    | succ n ih =>
      intro M a5 a7 H locs hR hS ls hl hF
      unfold fL_tick_L272 at hF
      refine lv_iload S.1 S.2.1 dL_tick_272 (lv_at hl 7 rfl) ?_
      refine lv_aload_n S.1 S.2.1 dL_tick_274 rfl (lv_at hl 0 rfl) ?_
      refine lv_iconst (v := 0) S.1 S.2.1 dL_tick_275 (by decide) ?_
      refine z_iald (k := kf0) (i := 0) (n := 4) S hK hR hF hk0 ha0 dL_tick_276 (fun hF => ?_)
      refine lv_icmp_ge (tgt := 350) S.1 S.2.1 dL_tick_277 (by decide) (fun hc66 => ?_) (fun hc66 => ?_)
      · replace hF := z_ct hF hc66
        exact hk _ _ _ _ _ hR hS _ (lv_sub hl [0, 1, 2, 3, 4, 5, 6, 7] rfl) hF
      · replace hF := z_cf hF hc66
        refine lv_iconst (v := 0) S.1 S.2.1 dL_tick_280 (by decide) ?_
        refine lv_istore (lv' := [(8, .int 0), (0, .ref (g.1 kf0 0)), (1, .ref (g.1 kf1 0)), (2, .ref (g.1 kf2 0)), (3, .ref (g.1 kf3 0)), (4, .ref (g.1 kf4 0)), (5, .int a5), (6, .int a6), (7, .int a7)]) S.1 S.2.1 dL_tick_281 hl (by decide) rfl (fun ls hl => ?_)
        refine L283 _ _ _ (fun M76 v77 v78 H locs hR hS ls hl hF => ?_) _ _ _ _ _ _ hR hS _ (lv_sub hl [1, 2, 3, 4, 5, 6, 7, 8, 0] rfl) hF
        obtain ⟨v79, ev79, hF⟩ := zL_out hF
        refine lv_iinc (v := v79) (lv' := [(7, .int v79), (0, .ref (g.1 kf0 0)), (1, .ref (g.1 kf1 0)), (2, .ref (g.1 kf2 0)), (3, .ref (g.1 kf3 0)), (4, .ref (g.1 kf4 0)), (5, .int v77), (6, .int a6), (8, .int v78)]) S.1 S.2.1 dL_tick_344 hl (k := 7) rfl (by rw [← ev79]; rfl) (by decide) rfl (fun ls hl => ?_)
        refine lv_goto (tgt := 272) S.1 S.2.1 dL_tick_347 (by decide) ?_
        exact ih _ _ _ _ _ hR hS _ (lv_sub hl [1, 2, 3, 4, 5, 6, 7, 0] rfl) hF
  have L395 : ∀ (k : zM → Int32 → Int32 → Option (Int32 × zM)) (a5 : Int32) (a7 : Int32), (∀ (M : zM) (a6 : Int32) (a8 : Int32) (H : Heap) (locs : List Loc), zR g M H → va_S (zS z) s.heap H locs → ∀ ls : Array Slot, lv_has ls 10 [(0, .ref (g.1 kf0 0)), (1, .ref (g.1 kf1 0)), (2, .ref (g.1 kf2 0)), (3, .ref (g.1 kf3 0)), (4, .ref (g.1 kf4 0)), (5, .int a5), (6, .int a6), (7, .int a7), (8, .int a8)] → k M a6 a8 = some (r, M') → W p l e { frames := 2, cells := 0, slots := 0, locals := 52 } s m ([.ref (g.1 kf0 0), .ref (g.1 kf1 0), .ref (g.1 kf2 0), .ref (g.1 kf3 0), .ref (g.1 kf4 0)] : List Value).toArray below meth c H locs 0 0 (MQ below (zQi g z r M') ([.ref (g.1 kf0 0), .ref (g.1 kf1 0), .ref (g.1 kf2 0), .ref (g.1 kf3 0), .ref (g.1 kf4 0)] : List Value).toArray s 0 0 (zS z)) (F0 m 477 ls [])) → ∀ (n : Nat) (M : zM) (a6 : Int32) (a8 : Int32) (H : Heap) (locs : List Loc), zR g M H → va_S (zS z) s.heap H locs → ∀ ls : Array Slot, lv_has ls 10 [(0, .ref (g.1 kf0 0)), (1, .ref (g.1 kf1 0)), (2, .ref (g.1 kf2 0)), (3, .ref (g.1 kf3 0)), (4, .ref (g.1 kf4 0)), (5, .int a5), (6, .int a6), (7, .int a7), (8, .int a8)] → fL_tick_L395 k kf0 kf1 kf2 kf3 kf4 a5 a7 n M a6 a8 = some (r, M') → W p l e { frames := 2, cells := 0, slots := 0, locals := 52 } s m ([.ref (g.1 kf0 0), .ref (g.1 kf1 0), .ref (g.1 kf2 0), .ref (g.1 kf3 0), .ref (g.1 kf4 0)] : List Value).toArray below meth c H locs 0 0 (MQ below (zQi g z r M') ([.ref (g.1 kf0 0), .ref (g.1 kf1 0), .ref (g.1 kf2 0), .ref (g.1 kf3 0), .ref (g.1 kf4 0)] : List Value).toArray s 0 0 (zS z)) (F0 m 395 ls []) := by
    intro k a5 a7 hk n
    induction n with
    | zero =>
      intro M a6 a8 H locs hR hS ls hl hF
      cases hF
    | succ n ih =>
      intro M a6 a8 H locs hR hS ls hl hF
      unfold fL_tick_L395 at hF
      have J471 : ∀ (M : zM) (a6 : Int32) (a8 : Int32) (H : Heap) (locs : List Loc), zR g M H → va_S (zS z) s.heap H locs → ∀ ls : Array Slot, lv_has ls 10 [(0, .ref (g.1 kf0 0)), (1, .ref (g.1 kf1 0)), (2, .ref (g.1 kf2 0)), (3, .ref (g.1 kf3 0)), (4, .ref (g.1 kf4 0)), (5, .int a5), (6, .int a6), (7, .int a7), (8, .int a8)] → fL_tick_J471 (fL_tick_L395 k kf0 kf1 kf2 kf3 kf4 a5 a7 n) k kf0 kf1 kf2 kf3 kf4 M a5 a6 a7 a8 = some (r, M') → W p l e { frames := 2, cells := 0, slots := 0, locals := 52 } s m ([.ref (g.1 kf0 0), .ref (g.1 kf1 0), .ref (g.1 kf2 0), .ref (g.1 kf3 0), .ref (g.1 kf4 0)] : List Value).toArray below meth c H locs 0 0 (MQ below (zQi g z r M') ([.ref (g.1 kf0 0), .ref (g.1 kf1 0), .ref (g.1 kf2 0), .ref (g.1 kf3 0), .ref (g.1 kf4 0)] : List Value).toArray s 0 0 (zS z)) (F0 m 471 ls []) := by
        intro M a6 a8 H locs hR hS ls hl hF
        unfold fL_tick_J471 at hF
        obtain ⟨v90, ev90, hF⟩ := zL_out hF
        refine lv_iinc (v := v90) (lv' := [(8, .int v90), (0, .ref (g.1 kf0 0)), (1, .ref (g.1 kf1 0)), (2, .ref (g.1 kf2 0)), (3, .ref (g.1 kf3 0)), (4, .ref (g.1 kf4 0)), (5, .int a5), (6, .int a6), (7, .int a7)]) S.1 S.2.1 dL_tick_471 hl (k := 8) rfl (by rw [← ev90]; rfl) (by decide) rfl (fun ls hl => ?_)
        refine lv_goto (tgt := 395) S.1 S.2.1 dL_tick_474 (by decide) ?_
        exact ih _ _ _ _ _ hR hS _ (lv_sub hl [1, 2, 3, 4, 5, 6, 7, 8, 0] rfl) hF
      refine lv_iload S.1 S.2.1 dL_tick_395 (lv_at hl 8 rfl) ?_
      refine lv_aload_n S.1 S.2.1 dL_tick_397 rfl (lv_at hl 0 rfl) ?_
      refine lv_iconst (v := 0) S.1 S.2.1 dL_tick_398 (by decide) ?_
      refine z_iald (k := kf0) (i := 0) (n := 4) S hK hR hF hk0 ha0 dL_tick_399 (fun hF => ?_)
      refine lv_icmp_ge (tgt := 477) S.1 S.2.1 dL_tick_400 (by decide) (fun hc87 => ?_) (fun hc87 => ?_)
      · replace hF := z_ct hF hc87
        exact hk _ _ _ _ _ hR hS _ (lv_sub hl [0, 1, 2, 3, 4, 5, 6, 7, 8] rfl) hF
      · replace hF := z_cf hF hc87
        refine lv_aload S.1 S.2.1 dL_tick_403 (lv_at hl 4 rfl) ?_
        refine lv_iconst (v := 4) S.1 S.2.1 dL_tick_405 (by decide) ?_
        refine lv_iload S.1 S.2.1 dL_tick_406 (lv_at hl 7 rfl) ?_
        refine lv_imul S.1 S.2.1 dL_tick_408 ?_
        refine lv_iload S.1 S.2.1 dL_tick_409 (lv_at hl 8 rfl) ?_
        refine lv_iadd S.1 S.2.1 dL_tick_411 ?_
        refine z_iald (k := kf4) (i := 0) (n := 16) S hK hR hF hk4 ha4 dL_tick_412 (fun hF => ?_)
        refine z_nm hF (fun v88 hF => ?_)
        refine lv_istore (lv' := [(9, .int v88), (0, .ref (g.1 kf0 0)), (1, .ref (g.1 kf1 0)), (2, .ref (g.1 kf2 0)), (3, .ref (g.1 kf3 0)), (4, .ref (g.1 kf4 0)), (5, .int a5), (6, .int a6), (7, .int a7), (8, .int a8)]) S.1 S.2.1 dL_tick_413 hl (by decide) rfl (fun ls hl => ?_)
        refine lv_iload S.1 S.2.1 dL_tick_415 (lv_at hl 0 rfl) ?_
        refine lv_if_lt (tgt := 471) S.1 S.2.1 dL_tick_417 (by decide) (fun hc89 => ?_) (fun hc89 => ?_)
        · replace hF := z_ct hF hc89
          exact J471 _ _ _ _ _ hR hS _ (lv_sub hl [1, 2, 3, 4, 5, 6, 7, 8, 9] rfl) hF
        · replace hF := z_cf hF hc89
          refine lv_iload S.1 S.2.1 dL_tick_420 (lv_at hl 8 rfl) ?_
          refine lv_iload S.1 S.2.1 dL_tick_422 (lv_at hl 0 rfl) ?_
          refine lv_bipush (v := 64) S.1 S.2.1 dL_tick_424 (by decide) ?_
          refine z_irem S.1 S.2.1 dL_tick_426 (by decide) ?_
          refine lv_aload_n S.1 S.2.1 dL_tick_427 rfl (lv_at hl 3 rfl) ?_
          refine lv_aload_n S.1 S.2.1 dL_tick_428 rfl (lv_at hl 4 rfl) ?_
          refine z_goi hS hF (fun _ _ ho => va_runS (n := 4) (As := [.int a7, .int (zir v88 64), .ref (g.1 kf2 0), .ref (g.1 kf3 0)]) (rest := []) S (kL_worn l hg hk2 ha2 hk3 ha3 ho) (va_cwS 4 S.2.2.2.2 (zgS wm_L_27 oL_worn) rfl rfl rfl hL_worn.2 ⟨Nat.le_of_ble_eq_true rfl, Nat.le_of_ble_eq_true rfl⟩) ⟨zPc_blind, z_pre hK hR⟩ rfl rfl hl.1 rfl (lv_room (Nat.le_of_ble_eq_true rfl)) dL_tick_429 ⟨Nat.zero_le _, Nat.zero_le _⟩) (fun r92 M91 H locs hR hS hF => ?_)
          refine lv_aload_n S.1 S.2.1 dL_tick_432 rfl (lv_at hl 2 rfl) ?_
          refine lv_bipush (v := 12) S.1 S.2.1 dL_tick_433 (by decide) ?_
          refine lv_iload S.1 S.2.1 dL_tick_435 (lv_at hl 8 rfl) ?_
          refine lv_imul S.1 S.2.1 dL_tick_437 ?_
          refine lv_bipush (v := 6) S.1 S.2.1 dL_tick_438 (by decide) ?_
          refine lv_iadd S.1 S.2.1 dL_tick_440 ?_
          refine z_iald (k := kf1) (i := 0) (n := 48) S hK hR hF hk1 ha1 dL_tick_441 (fun hF => ?_)
          refine lv_icmp_ge (tgt := 448) S.1 S.2.1 dL_tick_442 (by decide) (fun hc93 => ?_) (fun hc93 => ?_)
          · replace hF := z_ct hF hc93
            refine lv_aload_n S.1 S.2.1 dL_tick_448 rfl (lv_at hl 2 rfl) ?_
            refine lv_bipush (v := 12) S.1 S.2.1 dL_tick_449 (by decide) ?_
            refine lv_iload S.1 S.2.1 dL_tick_451 (lv_at hl 9 rfl) ?_
            refine lv_imul S.1 S.2.1 dL_tick_453 ?_
            refine lv_bipush (v := 7) S.1 S.2.1 dL_tick_454 (by decide) ?_
            refine lv_iadd S.1 S.2.1 dL_tick_456 ?_
            refine lv_dup2_11 S.1 S.2.1 dL_tick_457 rfl rfl ?_
            refine z_iald (k := kf1) (i := 0) (n := 48) S hK hR hF hk1 ha1 dL_tick_458 (fun hF => ?_)
            refine lv_iconst (v := 1) S.1 S.2.1 dL_tick_459 (by decide) ?_
            refine lv_iadd S.1 S.2.1 dL_tick_460 ?_
            refine z_iast (k := kf1) (i := 0) (n := 48) S hg hK hR hS hF hk1 ha1 dL_tick_461 (fun H locs M94 hR hS hF => ?_)
            refine lv_iload S.1 S.2.1 dL_tick_462 (lv_at hl 7 rfl) ?_
            refine lv_iconst (v := 1) S.1 S.2.1 dL_tick_464 (by decide) ?_
            refine lv_iload S.1 S.2.1 dL_tick_465 (lv_at hl 9 rfl) ?_
            refine lv_ishl S.1 S.2.1 dL_tick_467 ?_
            refine lv_ior S.1 S.2.1 dL_tick_468 ?_
            refine z_nm hF (fun v95 hF => ?_)
            refine lv_istore (lv' := [(6, .int v95), (9, .int v88), (0, .ref (g.1 kf0 0)), (1, .ref (g.1 kf1 0)), (2, .ref (g.1 kf2 0)), (3, .ref (g.1 kf3 0)), (4, .ref (g.1 kf4 0)), (5, .int a5), (7, .int a7), (8, .int a8)]) S.1 S.2.1 dL_tick_469 hl (by decide) rfl (fun ls hl => ?_)
            exact J471 _ _ _ _ _ hR hS _ (lv_sub hl [2, 3, 4, 5, 6, 7, 0, 8, 9] rfl) hF
          · replace hF := z_cf hF hc93
            refine lv_goto (tgt := 471) S.1 S.2.1 dL_tick_445 (by decide) ?_
            exact J471 _ _ _ _ _ hR hS _ (lv_sub hl [1, 2, 3, 4, 5, 6, 7, 8, 9] rfl) hF
  have L353 : ∀ (k : zM → Int32 → Int32 → Option (Int32 × zM)) (a5 : Int32), (∀ (M : zM) (a6 : Int32) (a7 : Int32) (H : Heap) (locs : List Loc), zR g M H → va_S (zS z) s.heap H locs → ∀ ls : Array Slot, lv_has ls 10 [(0, .ref (g.1 kf0 0)), (1, .ref (g.1 kf1 0)), (2, .ref (g.1 kf2 0)), (3, .ref (g.1 kf3 0)), (4, .ref (g.1 kf4 0)), (5, .int a5), (6, .int a6), (7, .int a7)] → k M a6 a7 = some (r, M') → W p l e { frames := 2, cells := 0, slots := 0, locals := 52 } s m ([.ref (g.1 kf0 0), .ref (g.1 kf1 0), .ref (g.1 kf2 0), .ref (g.1 kf3 0), .ref (g.1 kf4 0)] : List Value).toArray below meth c H locs 0 0 (MQ below (zQi g z r M') ([.ref (g.1 kf0 0), .ref (g.1 kf1 0), .ref (g.1 kf2 0), .ref (g.1 kf3 0), .ref (g.1 kf4 0)] : List Value).toArray s 0 0 (zS z)) (F0 m 483 ls [])) → ∀ (n : Nat) (M : zM) (a6 : Int32) (a7 : Int32) (H : Heap) (locs : List Loc), zR g M H → va_S (zS z) s.heap H locs → ∀ ls : Array Slot, lv_has ls 10 [(0, .ref (g.1 kf0 0)), (1, .ref (g.1 kf1 0)), (2, .ref (g.1 kf2 0)), (3, .ref (g.1 kf3 0)), (4, .ref (g.1 kf4 0)), (5, .int a5), (6, .int a6), (7, .int a7)] → fL_tick_L353 k kf0 kf1 kf2 kf3 kf4 a5 n M a6 a7 = some (r, M') → W p l e { frames := 2, cells := 0, slots := 0, locals := 52 } s m ([.ref (g.1 kf0 0), .ref (g.1 kf1 0), .ref (g.1 kf2 0), .ref (g.1 kf3 0), .ref (g.1 kf4 0)] : List Value).toArray below meth c H locs 0 0 (MQ below (zQi g z r M') ([.ref (g.1 kf0 0), .ref (g.1 kf1 0), .ref (g.1 kf2 0), .ref (g.1 kf3 0), .ref (g.1 kf4 0)] : List Value).toArray s 0 0 (zS z)) (F0 m 353 ls []) := by
    intro k a5 hk n
    induction n with
    | zero =>
      intro M a6 a7 H locs hR hS ls hl hF
      cases hF
    | succ n ih =>
      intro M a6 a7 H locs hR hS ls hl hF
      unfold fL_tick_L353 at hF
      have J477 : ∀ (M : zM) (a6 : Int32) (a7 : Int32) (H : Heap) (locs : List Loc), zR g M H → va_S (zS z) s.heap H locs → ∀ ls : Array Slot, lv_has ls 10 [(0, .ref (g.1 kf0 0)), (1, .ref (g.1 kf1 0)), (2, .ref (g.1 kf2 0)), (3, .ref (g.1 kf3 0)), (4, .ref (g.1 kf4 0)), (5, .int a5), (6, .int a6), (7, .int a7)] → fL_tick_J477 (fL_tick_L353 k kf0 kf1 kf2 kf3 kf4 a5 n) k kf0 kf1 kf2 kf3 kf4 M a5 a6 a7 = some (r, M') → W p l e { frames := 2, cells := 0, slots := 0, locals := 52 } s m ([.ref (g.1 kf0 0), .ref (g.1 kf1 0), .ref (g.1 kf2 0), .ref (g.1 kf3 0), .ref (g.1 kf4 0)] : List Value).toArray below meth c H locs 0 0 (MQ below (zQi g z r M') ([.ref (g.1 kf0 0), .ref (g.1 kf1 0), .ref (g.1 kf2 0), .ref (g.1 kf3 0), .ref (g.1 kf4 0)] : List Value).toArray s 0 0 (zS z)) (F0 m 477 ls []) := by
        intro M a6 a7 H locs hR hS ls hl hF
        unfold fL_tick_J477 at hF
        obtain ⟨v99, ev99, hF⟩ := zL_out hF
        refine lv_iinc (v := v99) (lv' := [(7, .int v99), (0, .ref (g.1 kf0 0)), (1, .ref (g.1 kf1 0)), (2, .ref (g.1 kf2 0)), (3, .ref (g.1 kf3 0)), (4, .ref (g.1 kf4 0)), (5, .int a5), (6, .int a6)]) S.1 S.2.1 dL_tick_477 hl (k := 7) rfl (by rw [← ev99]; rfl) (by decide) rfl (fun ls hl => ?_)
        refine lv_goto (tgt := 353) S.1 S.2.1 dL_tick_480 (by decide) ?_
        exact ih _ _ _ _ _ hR hS _ (lv_sub hl [1, 2, 3, 4, 5, 6, 7, 0] rfl) hF
      refine lv_iload S.1 S.2.1 dL_tick_353 (lv_at hl 7 rfl) ?_
      refine lv_aload_n S.1 S.2.1 dL_tick_355 rfl (lv_at hl 0 rfl) ?_
      refine lv_iconst (v := 0) S.1 S.2.1 dL_tick_356 (by decide) ?_
      refine z_iald (k := kf0) (i := 0) (n := 4) S hK hR hF hk0 ha0 dL_tick_357 (fun hF => ?_)
      refine lv_icmp_ge (tgt := 483) S.1 S.2.1 dL_tick_358 (by decide) (fun hc83 => ?_) (fun hc83 => ?_)
      · replace hF := z_ct hF hc83
        exact hk _ _ _ _ _ hR hS _ (lv_sub hl [0, 1, 2, 3, 4, 5, 6, 7] rfl) hF
      · replace hF := z_cf hF hc83
        refine lv_iload S.1 S.2.1 dL_tick_361 (lv_at hl 5 rfl) ?_
        refine lv_iload S.1 S.2.1 dL_tick_363 (lv_at hl 7 rfl) ?_
        refine lv_ishr S.1 S.2.1 dL_tick_365 ?_
        refine lv_iconst (v := 1) S.1 S.2.1 dL_tick_366 (by decide) ?_
        refine lv_iand S.1 S.2.1 dL_tick_367 ?_
        refine lv_if_ne (tgt := 374) S.1 S.2.1 dL_tick_368 (by decide) (fun hc84 => ?_) (fun hc84 => ?_)
        · replace hF := z_cf hF hc84
          refine lv_aload_n S.1 S.2.1 dL_tick_374 rfl (lv_at hl 1 rfl) ?_
          refine lv_bipush (v := 12) S.1 S.2.1 dL_tick_375 (by decide) ?_
          refine lv_iload S.1 S.2.1 dL_tick_377 (lv_at hl 7 rfl) ?_
          refine lv_imul S.1 S.2.1 dL_tick_379 ?_
          refine lv_bipush (v := 8) S.1 S.2.1 dL_tick_380 (by decide) ?_
          refine lv_iadd S.1 S.2.1 dL_tick_382 ?_
          refine lv_iconst (v := 1) S.1 S.2.1 dL_tick_383 (by decide) ?_
          refine z_iast (k := kf1) (i := 0) (n := 48) S hg hK hR hS hF hk1 ha1 dL_tick_384 (fun H locs M85 hR hS hF => ?_)
          refine lv_aload_n S.1 S.2.1 dL_tick_385 rfl (lv_at hl 0 rfl) ?_
          refine lv_iconst (v := 3) S.1 S.2.1 dL_tick_386 (by decide) ?_
          refine lv_dup2_11 S.1 S.2.1 dL_tick_387 rfl rfl ?_
          refine z_iald (k := kf0) (i := 0) (n := 4) S hK hR hF hk0 ha0 dL_tick_388 (fun hF => ?_)
          refine lv_iconst (v := 1) S.1 S.2.1 dL_tick_389 (by decide) ?_
          refine lv_iadd S.1 S.2.1 dL_tick_390 ?_
          refine z_iast (k := kf0) (i := 0) (n := 4) S hg hK hR hS hF hk0 ha0 dL_tick_391 (fun H locs M86 hR hS hF => ?_)
          refine lv_iconst (v := 0) S.1 S.2.1 dL_tick_392 (by decide) ?_
          refine lv_istore (lv' := [(8, .int 0), (0, .ref (g.1 kf0 0)), (1, .ref (g.1 kf1 0)), (2, .ref (g.1 kf2 0)), (3, .ref (g.1 kf3 0)), (4, .ref (g.1 kf4 0)), (5, .int a5), (6, .int a6), (7, .int a7)]) S.1 S.2.1 dL_tick_393 hl (by decide) rfl (fun ls hl => ?_)
          refine L395 _ _ _ (fun M96 v97 v98 H locs hR hS ls hl hF => ?_) _ _ _ _ _ _ hR hS _ (lv_sub hl [1, 2, 3, 4, 5, 6, 7, 8, 0] rfl) hF
          exact J477 _ _ _ _ _ hR hS _ (lv_sub hl [0, 1, 2, 3, 4, 5, 6, 7] rfl) hF
        · replace hF := z_ct hF hc84
          refine lv_goto (tgt := 477) S.1 S.2.1 dL_tick_371 (by decide) ?_
          exact J477 _ _ _ _ _ hR hS _ (lv_sub hl [0, 1, 2, 3, 4, 5, 6, 7] rfl) hF
  unfold fL_tick at hF
  refine lv_iconst (v := 0) S.1 S.2.1 dL_tick_0 (by decide) ?_
  refine lv_istore (lv' := [(5, .int 0), (0, .ref (g.1 kf0 0)), (1, .ref (g.1 kf1 0)), (2, .ref (g.1 kf2 0)), (3, .ref (g.1 kf3 0)), (4, .ref (g.1 kf4 0))]) S.1 S.2.1 dL_tick_1 hl (by decide) rfl (fun ls hl => ?_)
  refine L3 _ (fun M37 v38 H locs hR hS ls hl hF => ?_) _ _ _ _ _ hR hS _ (lv_sub hl [1, 2, 3, 4, 5, 0] rfl) hF
  refine lv_iconst (v := 0) S.1 S.2.1 dL_tick_140 (by decide) ?_
  refine lv_istore (lv' := [(5, .int 0), (0, .ref (g.1 kf0 0)), (1, .ref (g.1 kf1 0)), (2, .ref (g.1 kf2 0)), (3, .ref (g.1 kf3 0)), (4, .ref (g.1 kf4 0))]) S.1 S.2.1 dL_tick_141 hl (by decide) rfl (fun ls hl => ?_)
  refine L143 _ (fun M64 v65 H locs hR hS ls hl hF => ?_) _ _ _ _ _ hR hS _ (lv_sub hl [1, 2, 3, 4, 5, 0] rfl) hF
  refine lv_iconst (v := 0) S.1 S.2.1 dL_tick_263 (by decide) ?_
  refine lv_istore (lv' := [(5, .int 0), (0, .ref (g.1 kf0 0)), (1, .ref (g.1 kf1 0)), (2, .ref (g.1 kf2 0)), (3, .ref (g.1 kf3 0)), (4, .ref (g.1 kf4 0))]) S.1 S.2.1 dL_tick_264 hl (by decide) rfl (fun ls hl => ?_)
  refine lv_iconst (v := 0) S.1 S.2.1 dL_tick_266 (by decide) ?_
  refine lv_istore (lv' := [(6, .int 0), (5, .int 0), (0, .ref (g.1 kf0 0)), (1, .ref (g.1 kf1 0)), (2, .ref (g.1 kf2 0)), (3, .ref (g.1 kf3 0)), (4, .ref (g.1 kf4 0))]) S.1 S.2.1 dL_tick_267 hl (by decide) rfl (fun ls hl => ?_)
  refine lv_iconst (v := 0) S.1 S.2.1 dL_tick_269 (by decide) ?_
  refine lv_istore (lv' := [(7, .int 0), (6, .int 0), (5, .int 0), (0, .ref (g.1 kf0 0)), (1, .ref (g.1 kf1 0)), (2, .ref (g.1 kf2 0)), (3, .ref (g.1 kf3 0)), (4, .ref (g.1 kf4 0))]) S.1 S.2.1 dL_tick_270 hl (by decide) rfl (fun ls hl => ?_)
  refine L272 _ _ (fun M80 v81 v82 H locs hR hS ls hl hF => ?_) _ _ _ _ _ _ hR hS _ (lv_sub hl [3, 4, 5, 6, 7, 2, 1, 0] rfl) hF
  refine lv_iconst (v := 0) S.1 S.2.1 dL_tick_350 (by decide) ?_
  refine lv_istore (lv' := [(7, .int 0), (0, .ref (g.1 kf0 0)), (1, .ref (g.1 kf1 0)), (2, .ref (g.1 kf2 0)), (3, .ref (g.1 kf3 0)), (4, .ref (g.1 kf4 0)), (5, .int v81), (6, .int 0)]) S.1 S.2.1 dL_tick_351 hl (by decide) rfl (fun ls hl => ?_)
  refine L353 _ _ (fun M100 v101 v102 H locs hR hS ls hl hF => ?_) _ _ _ _ _ _ hR hS _ (lv_sub hl [1, 2, 3, 4, 5, 6, 7, 0] rfl) hF
  refine lv_aload_n S.1 S.2.1 dL_tick_483 rfl (lv_at hl 0 rfl) ?_
  refine lv_iconst (v := 2) S.1 S.2.1 dL_tick_484 (by decide) ?_
  refine lv_dup2_11 S.1 S.2.1 dL_tick_485 rfl rfl ?_
  refine z_iald (k := kf0) (i := 0) (n := 4) S hK hR hF hk0 ha0 dL_tick_486 (fun hF => ?_)
  refine lv_iconst (v := 1) S.1 S.2.1 dL_tick_487 (by decide) ?_
  refine lv_iadd S.1 S.2.1 dL_tick_488 ?_
  refine z_iast (k := kf0) (i := 0) (n := 4) S hg hK hR hS hF hk0 ha0 dL_tick_489 (fun H locs M103 hR hS hF => ?_)
  refine lv_iload S.1 S.2.1 dL_tick_490 (lv_at hl 5 rfl) ?_
  refine lv_bipush (v := 100) S.1 S.2.1 dL_tick_492 (by decide) ?_
  refine lv_iload S.1 S.2.1 dL_tick_494 (lv_at hl 6 rfl) ?_
  refine lv_imul S.1 S.2.1 dL_tick_496 ?_
  refine lv_iadd S.1 S.2.1 dL_tick_497 ?_
  exact z_iret S hr hlk hR hS hF dL_tick_498
theorem hL_copy : yL_copy.cls = RL ∧ yL_copy.cls ≠ "java/lang/invoke/MethodHandle" ∧ yL_copy.cls ≠ "java/lang/invoke/VarHandle" ∧ (parseMethodDescriptor yL_copy.desc).map (fun d => d.parameters.length) = some 3 := by decide +kernel
theorem oL_copy : Cond.static yL_copy ∈ zT ∧ Cond.initialized RL ∈ zT ∧ Cond.code yL_copy cL_copy 4 none ∈ zT := ⟨ws_L_copy, wi_L, wk_L_copy⟩
set_option maxRecDepth 100000 in
set_option maxHeartbeats 4000000 in
theorem kL_copy (l : Launch) {g : zGeo} {z : Nat} (hg : zAd g z) {M M' : zM} {kf0 nf0 : Nat} (hk0 : 0 < zcnt kf0) (ha0 : zarr kf0 = some (0, nf0)) {kf1 nf1 : Nat} (hk1 : 0 < zcnt kf1) (ha1 : zarr kf1 = some (0, nf1)) {v2 : Int32} {r : Unit} (hF : fL_copy M kf0 nf0 kf1 nf1 v2 = some (r, M')) : Met l yL_copy [.code yL_copy cL_copy 4 none] { frames := 0, cells := 0, slots := 0, locals := 0 } (zPc g M [.ref (g.1 kf0 0), .ref (g.1 kf1 0), .int v2]) (zQv g z M') 0 0 (zS z) := by
  refine z_enter (cc := cL_copy) (maxL := 4) (ret := none) (by decide) rfl (Nat.le_of_ble_eq_true rfl) ?_
  intro p e s m below meth c S hr hlk hK hR hS ls hl
  have S : CallFix p m c cL_copy 4 s _ zT RL := S
  have hl : lv_has ls 4 [(0, .ref (g.1 kf0 0)), (1, .ref (g.1 kf1 0)), (2, .int v2)] := hl
  have L2 : ∀ (k : zM → Int32 → Option (Unit × zM)) (a2 : Int32), (∀ (M : zM) (a3 : Int32) (H : Heap) (locs : List Loc), zR g M H → va_S (zS z) s.heap H locs → ∀ ls : Array Slot, lv_has ls 4 [(0, .ref (g.1 kf0 0)), (1, .ref (g.1 kf1 0)), (2, .int a2), (3, .int a3)] → k M a3 = some (r, M') → W p l e { frames := 0, cells := 0, slots := 0, locals := 0 } s m ([.ref (g.1 kf0 0), .ref (g.1 kf1 0), .int v2] : List Value).toArray below meth c H locs 0 0 (MQ below (zQv g z M') ([.ref (g.1 kf0 0), .ref (g.1 kf1 0), .int v2] : List Value).toArray s 0 0 (zS z)) (F0 m 19 ls [])) → ∀ (n : Nat) (M : zM) (a3 : Int32) (H : Heap) (locs : List Loc), zR g M H → va_S (zS z) s.heap H locs → ∀ ls : Array Slot, lv_has ls 4 [(0, .ref (g.1 kf0 0)), (1, .ref (g.1 kf1 0)), (2, .int a2), (3, .int a3)] → fL_copy_L2 k kf0 nf0 kf1 nf1 a2 n M a3 = some (r, M') → W p l e { frames := 0, cells := 0, slots := 0, locals := 0 } s m ([.ref (g.1 kf0 0), .ref (g.1 kf1 0), .int v2] : List Value).toArray below meth c H locs 0 0 (MQ below (zQv g z M') ([.ref (g.1 kf0 0), .ref (g.1 kf1 0), .int v2] : List Value).toArray s 0 0 (zS z)) (F0 m 2 ls []) := by
    intro k a2 hk n
    induction n with
    | zero =>
      intro M a3 H locs hR hS ls hl hF
      cases hF
    | succ n ih =>
      intro M a3 H locs hR hS ls hl hF
      unfold fL_copy_L2 at hF
      refine lv_iload_n S.1 S.2.1 dL_copy_2 rfl (lv_at hl 3 rfl) ?_
      refine lv_iload_n S.1 S.2.1 dL_copy_3 rfl (lv_at hl 2 rfl) ?_
      refine lv_icmp_ge (tgt := 19) S.1 S.2.1 dL_copy_4 (by decide) (fun hc21 => ?_) (fun hc21 => ?_)
      · replace hF := z_ct hF hc21
        exact hk _ _ _ _ hR hS _ (lv_sub hl [0, 1, 2, 3] rfl) hF
      · replace hF := z_cf hF hc21
        refine lv_aload_n S.1 S.2.1 dL_copy_7 rfl (lv_at hl 1 rfl) ?_
        refine lv_iload_n S.1 S.2.1 dL_copy_8 rfl (lv_at hl 3 rfl) ?_
        refine lv_aload_n S.1 S.2.1 dL_copy_9 rfl (lv_at hl 0 rfl) ?_
        refine lv_iload_n S.1 S.2.1 dL_copy_10 rfl (lv_at hl 3 rfl) ?_
        refine z_iald (k := kf0) (i := 0) (n := nf0) S hK hR hF hk0 ha0 dL_copy_11 (fun hF => ?_)
        refine z_iast (k := kf1) (i := 0) (n := nf1) S hg hK hR hS hF hk1 ha1 dL_copy_12 (fun H locs M22 hR hS hF => ?_)
        obtain ⟨v23, ev23, hF⟩ := zL_out hF
        refine lv_iinc (v := v23) (lv' := [(3, .int v23), (0, .ref (g.1 kf0 0)), (1, .ref (g.1 kf1 0)), (2, .int a2)]) S.1 S.2.1 dL_copy_13 hl (k := 3) rfl (by rw [← ev23]; rfl) (by decide) rfl (fun ls hl => ?_)
        refine lv_goto (tgt := 2) S.1 S.2.1 dL_copy_16 (by decide) ?_
        exact ih _ _ _ _ hR hS _ (lv_sub hl [1, 2, 3, 0] rfl) hF
  unfold fL_copy at hF
  refine lv_iconst (v := 0) S.1 S.2.1 dL_copy_0 (by decide) ?_
  refine lv_istore_n (lv' := [(3, .int 0), (0, .ref (g.1 kf0 0)), (1, .ref (g.1 kf1 0)), (2, .int v2)]) S.1 S.2.1 dL_copy_1 rfl hl (by decide) rfl (fun ls hl => ?_)
  refine L2 _ _ (fun M24 v25 H locs hR hS ls hl hF => ?_) _ _ _ _ _ hR hS _ (lv_sub hl [1, 2, 3, 0] rfl) hF
  exact z_vret S hr hlk hR hS hF dL_copy_19
theorem hL_same : yL_same.cls = RL ∧ yL_same.cls ≠ "java/lang/invoke/MethodHandle" ∧ yL_same.cls ≠ "java/lang/invoke/VarHandle" ∧ (parseMethodDescriptor yL_same.desc).map (fun d => d.parameters.length) = some 5 := by decide +kernel
theorem oL_same : Cond.static yL_same ∈ zT ∧ Cond.initialized RL ∈ zT ∧ Cond.code yL_same cL_same 17 (some .boolean) ∈ zT := ⟨ws_L_same, wi_L, wk_L_same⟩
set_option maxRecDepth 100000 in
set_option maxHeartbeats 4000000 in
theorem kL_same (l : Launch) {g : zGeo} {z : Nat} (hg : zAd g z) {M M' : zM}  {r : Int32} (hF : fL_same M = some (r, M')) : Met l yL_same [.code yL_same cL_same 17 (some .boolean)] { frames := 6, cells := 0, slots := 0, locals := 134 } (zPc g M [.ref (g.1 0 0), .ref (g.1 26 0), .ref (g.1 27 0), .ref (g.1 28 0), .ref (g.1 29 0)]) (zQi g z r M') 0 0 (zS z) := by
  refine z_enter (cc := cL_same) (maxL := 17) (ret := (some .boolean)) (by decide) rfl (Nat.le_of_ble_eq_true rfl) ?_
  intro p e s m below meth c S hr hlk hK hR hS ls hl
  have S : CallFix p m c cL_same 17 s _ zT RL := S
  have hl : lv_has ls 17 [(0, .ref (g.1 0 0)), (1, .ref (g.1 26 0)), (2, .ref (g.1 27 0)), (3, .ref (g.1 28 0)), (4, .ref (g.1 29 0))] := hl
  have L61 : ∀ (k : zM → Int32 → Int32 → Int32 → Option (Int32 × zM)) (a5 : Int32) (a6 : Int32) (a7 : Int32) (a8 : Int32) (a9 : Int32) (a10 : Int32) (a11 : Int32) (a14 : Int32), (∀ (M : zM) (a12 : Int32) (a13 : Int32) (a15 : Int32) (H : Heap) (locs : List Loc), zR g M H → va_S (zS z) s.heap H locs → ∀ ls : Array Slot, lv_has ls 17 [(0, .ref (g.1 0 0)), (1, .ref (g.1 26 0)), (2, .ref (g.1 27 0)), (3, .ref (g.1 28 0)), (4, .ref (g.1 29 0)), (5, .int a5), (6, .int a6), (7, .int a7), (8, .int a8), (9, .int a9), (10, .int a10), (11, .int a11), (12, .int a12), (13, .int a13), (14, .int a14), (15, .int a15)] → k M a12 a13 a15 = some (r, M') → W p l e { frames := 6, cells := 0, slots := 0, locals := 134 } s m ([.ref (g.1 0 0), .ref (g.1 26 0), .ref (g.1 27 0), .ref (g.1 28 0), .ref (g.1 29 0)] : List Value).toArray below meth c H locs 0 0 (MQ below (zQi g z r M') ([.ref (g.1 0 0), .ref (g.1 26 0), .ref (g.1 27 0), .ref (g.1 28 0), .ref (g.1 29 0)] : List Value).toArray s 0 0 (zS z)) (F0 m 141 ls [])) → ∀ (n : Nat) (M : zM) (a12 : Int32) (a13 : Int32) (a15 : Int32) (H : Heap) (locs : List Loc), zR g M H → va_S (zS z) s.heap H locs → ∀ ls : Array Slot, lv_has ls 17 [(0, .ref (g.1 0 0)), (1, .ref (g.1 26 0)), (2, .ref (g.1 27 0)), (3, .ref (g.1 28 0)), (4, .ref (g.1 29 0)), (5, .int a5), (6, .int a6), (7, .int a7), (8, .int a8), (9, .int a9), (10, .int a10), (11, .int a11), (12, .int a12), (13, .int a13), (14, .int a14), (15, .int a15)] → fL_same_L61 k a5 a6 a7 a8 a9 a10 a11 a14 n M a12 a13 a15 = some (r, M') → W p l e { frames := 6, cells := 0, slots := 0, locals := 134 } s m ([.ref (g.1 0 0), .ref (g.1 26 0), .ref (g.1 27 0), .ref (g.1 28 0), .ref (g.1 29 0)] : List Value).toArray below meth c H locs 0 0 (MQ below (zQi g z r M') ([.ref (g.1 0 0), .ref (g.1 26 0), .ref (g.1 27 0), .ref (g.1 28 0), .ref (g.1 29 0)] : List Value).toArray s 0 0 (zS z)) (F0 m 61 ls []) := by
    intro k a5 a6 a7 a8 a9 a10 a11 a14 hk n
    induction n with
    | zero =>
      intro M a12 a13 a15 H locs hR hS ls hl hF
      cases hF
    | succ n ih =>
      intro M a12 a13 a15 H locs hR hS ls hl hF
      unfold fL_same_L61 at hF
      refine lv_iload S.1 S.2.1 dL_same_61 (lv_at hl 15 rfl) ?_
      refine lv_if_lt (tgt := 141) S.1 S.2.1 dL_same_63 (by decide) (fun hc24 => ?_) (fun hc24 => ?_)
      · replace hF := z_ct hF hc24
        exact hk _ _ _ _ _ _ hR hS _ (lv_sub hl [0, 1, 2, 3, 4, 5, 6, 7, 8, 9, 10, 11, 12, 13, 14, 15] rfl) hF
      · replace hF := z_cf hF hc24
        refine lv_iload S.1 S.2.1 dL_same_66 (lv_at hl 9 rfl) ?_
        refine lv_iload S.1 S.2.1 dL_same_68 (lv_at hl 15 rfl) ?_
        refine lv_aload_n S.1 S.2.1 dL_same_70 rfl (lv_at hl 3 rfl) ?_
        refine lv_aload S.1 S.2.1 dL_same_71 (lv_at hl 4 rfl) ?_
        refine z_goi hS hF (fun _ _ ho => va_runS (n := 4) (As := [.int a9, .int a15, .ref (g.1 28 0), .ref (g.1 29 0)]) (rest := []) S (kL_worn l hg (by decide) rfl (by decide) rfl ho) (va_cwS 4 S.2.2.2.2 (zgS wm_L_27 oL_worn) rfl rfl rfl hL_worn.2 ⟨Nat.le_of_ble_eq_true rfl, Nat.le_of_ble_eq_true rfl⟩) ⟨zPc_blind, z_pre hK hR⟩ rfl rfl hl.1 rfl (lv_room (Nat.le_of_ble_eq_true rfl)) dL_same_73 ⟨Nat.zero_le _, Nat.zero_le _⟩) (fun r26 M25 H locs hR hS hF => ?_)
        refine lv_istore (lv' := [(16, .int r26), (0, .ref (g.1 0 0)), (1, .ref (g.1 26 0)), (2, .ref (g.1 27 0)), (3, .ref (g.1 28 0)), (4, .ref (g.1 29 0)), (5, .int a5), (6, .int a6), (7, .int a7), (8, .int a8), (9, .int a9), (10, .int a10), (11, .int a11), (12, .int a12), (13, .int a13), (14, .int a14), (15, .int a15)]) S.1 S.2.1 dL_same_76 hl (by decide) rfl (fun ls hl => ?_)
        refine lv_iload S.1 S.2.1 dL_same_78 (lv_at hl 0 rfl) ?_
        refine lv_iload S.1 S.2.1 dL_same_80 (lv_at hl 13 rfl) ?_
        refine lv_icmp_lt (tgt := 90) S.1 S.2.1 dL_same_82 (by decide) (fun hc27 => ?_) (fun hc27 => ?_)
        · replace hF := z_ct hF hc27
          refine lv_iload S.1 S.2.1 dL_same_90 (lv_at hl 14 rfl) ?_
          refine lv_istore (lv' := [(13, .int a13), (16, .int r26), (0, .ref (g.1 0 0)), (1, .ref (g.1 26 0)), (2, .ref (g.1 27 0)), (3, .ref (g.1 28 0)), (4, .ref (g.1 29 0)), (5, .int a5), (6, .int a6), (7, .int a7), (8, .int a8), (9, .int a9), (10, .int a10), (11, .int a11), (12, .int a12), (14, .int a14), (15, .int a15)]) S.1 S.2.1 dL_same_92 hl (by decide) rfl (fun ls hl => ?_)
          refine lv_iload S.1 S.2.1 dL_same_94 (lv_at hl 1 rfl) ?_
          refine lv_iload S.1 S.2.1 dL_same_96 (lv_at hl 14 rfl) ?_
          refine lv_icmp_le (tgt := 106) S.1 S.2.1 dL_same_98 (by decide) (fun hc28 => ?_) (fun hc28 => ?_)
          · replace hF := z_ct hF hc28
            refine lv_iload S.1 S.2.1 dL_same_106 (lv_at hl 14 rfl) ?_
            refine lv_istore (lv' := [(12, .int a12), (13, .int a13), (16, .int r26), (0, .ref (g.1 0 0)), (1, .ref (g.1 26 0)), (2, .ref (g.1 27 0)), (3, .ref (g.1 28 0)), (4, .ref (g.1 29 0)), (5, .int a5), (6, .int a6), (7, .int a7), (8, .int a8), (9, .int a9), (10, .int a10), (11, .int a11), (14, .int a14), (15, .int a15)]) S.1 S.2.1 dL_same_108 hl (by decide) rfl (fun ls hl => ?_)
            refine lv_aload_n S.1 S.2.1 dL_same_110 rfl (lv_at hl 3 rfl) ?_
            refine lv_iload S.1 S.2.1 dL_same_111 (lv_at hl 12 rfl) ?_
            refine lv_iload S.1 S.2.1 dL_same_113 (lv_at hl 16 rfl) ?_
            refine z_goi hS hF (fun _ _ ho => va_runV (C := RX6) (n := 2) (As := [.int a9, .int a15]) (rest := []) S (kX6_wear l hg ho) (cwV 2 S.2.2.2.2 (zgV wm_L_31 oX6_wear) rfl rfl rfl hX6_wear ⟨Nat.le_of_ble_eq_true rfl, Nat.le_of_ble_eq_true rfl⟩) ⟨zPc_blind, z_recv hK hR (by decide) rfl rfl, z_pre hK hR⟩ rfl rfl hl.1 rfl (lv_room (Nat.le_of_ble_eq_true rfl)) dL_same_115 ⟨Nat.zero_le _, Nat.zero_le _⟩) (fun r30 M29 H locs hR hS hF => ?_)
            refine lv_iload S.1 S.2.1 dL_same_118 (lv_at hl 14 rfl) ?_
            refine lv_if_eq (tgt := 128) S.1 S.2.1 dL_same_120 (by decide) (fun hc31 => ?_) (fun hc31 => ?_)
            · replace hF := z_ct hF hc31
              refine lv_bipush (v := (-5)) S.1 S.2.1 dL_same_128 (by decide) ?_
              refine lv_icmp_eq (tgt := 135) S.1 S.2.1 dL_same_130 (by decide) (fun hc32 => ?_) (fun hc32 => ?_)
              · replace hF := z_ct hF hc32
                obtain ⟨v33, ev33, hF⟩ := zL_out hF
                refine lv_iinc (v := v33) (lv' := [(15, .int v33), (12, .int a12), (13, .int a13), (16, .int r26), (0, .ref (g.1 0 0)), (1, .ref (g.1 26 0)), (2, .ref (g.1 27 0)), (3, .ref (g.1 28 0)), (4, .ref (g.1 29 0)), (5, .int a5), (6, .int a6), (7, .int a7), (8, .int a8), (9, .int a9), (10, .int a10), (11, .int a11), (14, .int a14)]) S.1 S.2.1 dL_same_135 hl (k := 16) rfl (by rw [← ev33]; rfl) (by decide) rfl (fun ls hl => ?_)
                refine lv_goto (tgt := 61) S.1 S.2.1 dL_same_138 (by decide) ?_
                exact ih _ _ _ _ _ _ hR hS _ (lv_sub hl [4, 5, 6, 7, 8, 9, 10, 11, 12, 13, 14, 15, 1, 2, 16, 0] rfl) hF
              · replace hF := z_cf hF hc32
                refine lv_iconst (v := 0) S.1 S.2.1 dL_same_133 (by decide) ?_
                exact z_zretc S hr hlk hR hS (by decide) hF dL_same_134
            · replace hF := z_cf hF hc31
              refine lv_iload S.1 S.2.1 dL_same_123 (lv_at hl 2 rfl) ?_
              refine lv_goto (tgt := 130) S.1 S.2.1 dL_same_125 (by decide) ?_
              refine lv_icmp_eq (tgt := 135) S.1 S.2.1 dL_same_130 (by decide) (fun hc34 => ?_) (fun hc34 => ?_)
              · replace hF := z_ct hF hc34
                obtain ⟨v35, ev35, hF⟩ := zL_out hF
                refine lv_iinc (v := v35) (lv' := [(15, .int v35), (12, .int a12), (13, .int a13), (16, .int r26), (0, .ref (g.1 0 0)), (1, .ref (g.1 26 0)), (2, .ref (g.1 27 0)), (3, .ref (g.1 28 0)), (4, .ref (g.1 29 0)), (5, .int a5), (6, .int a6), (7, .int a7), (8, .int a8), (9, .int a9), (10, .int a10), (11, .int a11), (14, .int a14)]) S.1 S.2.1 dL_same_135 hl (k := 16) rfl (by rw [← ev35]; rfl) (by decide) rfl (fun ls hl => ?_)
                refine lv_goto (tgt := 61) S.1 S.2.1 dL_same_138 (by decide) ?_
                exact ih _ _ _ _ _ _ hR hS _ (lv_sub hl [4, 5, 6, 7, 8, 9, 10, 11, 12, 13, 14, 15, 1, 2, 16, 0] rfl) hF
              · replace hF := z_cf hF hc34
                refine lv_iconst (v := 0) S.1 S.2.1 dL_same_133 (by decide) ?_
                exact z_zretc S hr hlk hR hS (by decide) hF dL_same_134
          · replace hF := z_cf hF hc28
            refine lv_iload S.1 S.2.1 dL_same_101 (lv_at hl 1 rfl) ?_
            refine lv_goto (tgt := 108) S.1 S.2.1 dL_same_103 (by decide) ?_
            refine lv_istore (lv' := [(12, .int r26), (13, .int a13), (16, .int r26), (0, .ref (g.1 0 0)), (1, .ref (g.1 26 0)), (2, .ref (g.1 27 0)), (3, .ref (g.1 28 0)), (4, .ref (g.1 29 0)), (5, .int a5), (6, .int a6), (7, .int a7), (8, .int a8), (9, .int a9), (10, .int a10), (11, .int a11), (14, .int a14), (15, .int a15)]) S.1 S.2.1 dL_same_108 hl (by decide) rfl (fun ls hl => ?_)
            refine lv_aload_n S.1 S.2.1 dL_same_110 rfl (lv_at hl 3 rfl) ?_
            refine lv_iload S.1 S.2.1 dL_same_111 (lv_at hl 12 rfl) ?_
            refine lv_iload S.1 S.2.1 dL_same_113 (lv_at hl 16 rfl) ?_
            refine z_goi hS hF (fun _ _ ho => va_runV (C := RX6) (n := 2) (As := [.int a9, .int a15]) (rest := []) S (kX6_wear l hg ho) (cwV 2 S.2.2.2.2 (zgV wm_L_31 oX6_wear) rfl rfl rfl hX6_wear ⟨Nat.le_of_ble_eq_true rfl, Nat.le_of_ble_eq_true rfl⟩) ⟨zPc_blind, z_recv hK hR (by decide) rfl rfl, z_pre hK hR⟩ rfl rfl hl.1 rfl (lv_room (Nat.le_of_ble_eq_true rfl)) dL_same_115 ⟨Nat.zero_le _, Nat.zero_le _⟩) (fun r37 M36 H locs hR hS hF => ?_)
            refine lv_iload S.1 S.2.1 dL_same_118 (lv_at hl 14 rfl) ?_
            refine lv_if_eq (tgt := 128) S.1 S.2.1 dL_same_120 (by decide) (fun hc38 => ?_) (fun hc38 => ?_)
            · replace hF := z_ct hF hc38
              refine lv_bipush (v := (-5)) S.1 S.2.1 dL_same_128 (by decide) ?_
              refine lv_icmp_eq (tgt := 135) S.1 S.2.1 dL_same_130 (by decide) (fun hc39 => ?_) (fun hc39 => ?_)
              · replace hF := z_ct hF hc39
                obtain ⟨v40, ev40, hF⟩ := zL_out hF
                refine lv_iinc (v := v40) (lv' := [(15, .int v40), (12, .int r26), (13, .int a13), (16, .int r26), (0, .ref (g.1 0 0)), (1, .ref (g.1 26 0)), (2, .ref (g.1 27 0)), (3, .ref (g.1 28 0)), (4, .ref (g.1 29 0)), (5, .int a5), (6, .int a6), (7, .int a7), (8, .int a8), (9, .int a9), (10, .int a10), (11, .int a11), (14, .int a14)]) S.1 S.2.1 dL_same_135 hl (k := 16) rfl (by rw [← ev40]; rfl) (by decide) rfl (fun ls hl => ?_)
                refine lv_goto (tgt := 61) S.1 S.2.1 dL_same_138 (by decide) ?_
                exact ih _ _ _ _ _ _ hR hS _ (lv_sub hl [4, 5, 6, 7, 8, 9, 10, 11, 12, 13, 14, 15, 1, 2, 16, 0] rfl) hF
              · replace hF := z_cf hF hc39
                refine lv_iconst (v := 0) S.1 S.2.1 dL_same_133 (by decide) ?_
                exact z_zretc S hr hlk hR hS (by decide) hF dL_same_134
            · replace hF := z_cf hF hc38
              refine lv_iload S.1 S.2.1 dL_same_123 (lv_at hl 2 rfl) ?_
              refine lv_goto (tgt := 130) S.1 S.2.1 dL_same_125 (by decide) ?_
              refine lv_icmp_eq (tgt := 135) S.1 S.2.1 dL_same_130 (by decide) (fun hc41 => ?_) (fun hc41 => ?_)
              · replace hF := z_ct hF hc41
                obtain ⟨v42, ev42, hF⟩ := zL_out hF
                refine lv_iinc (v := v42) (lv' := [(15, .int v42), (12, .int r26), (13, .int a13), (16, .int r26), (0, .ref (g.1 0 0)), (1, .ref (g.1 26 0)), (2, .ref (g.1 27 0)), (3, .ref (g.1 28 0)), (4, .ref (g.1 29 0)), (5, .int a5), (6, .int a6), (7, .int a7), (8, .int a8), (9, .int a9), (10, .int a10), (11, .int a11), (14, .int a14)]) S.1 S.2.1 dL_same_135 hl (k := 16) rfl (by rw [← ev42]; rfl) (by decide) rfl (fun ls hl => ?_)
                refine lv_goto (tgt := 61) S.1 S.2.1 dL_same_138 (by decide) ?_
                exact ih _ _ _ _ _ _ hR hS _ (lv_sub hl [4, 5, 6, 7, 8, 9, 10, 11, 12, 13, 14, 15, 1, 2, 16, 0] rfl) hF
              · replace hF := z_cf hF hc41
                refine lv_iconst (v := 0) S.1 S.2.1 dL_same_133 (by decide) ?_
                exact z_zretc S hr hlk hR hS (by decide) hF dL_same_134
        · replace hF := z_cf hF hc27
          refine lv_iload S.1 S.2.1 dL_same_85 (lv_at hl 16 rfl) ?_
          refine lv_goto (tgt := 92) S.1 S.2.1 dL_same_87 (by decide) ?_
          refine lv_istore (lv' := [(13, .int a15), (16, .int r26), (0, .ref (g.1 0 0)), (1, .ref (g.1 26 0)), (2, .ref (g.1 27 0)), (3, .ref (g.1 28 0)), (4, .ref (g.1 29 0)), (5, .int a5), (6, .int a6), (7, .int a7), (8, .int a8), (9, .int a9), (10, .int a10), (11, .int a11), (12, .int a12), (14, .int a14), (15, .int a15)]) S.1 S.2.1 dL_same_92 hl (by decide) rfl (fun ls hl => ?_)
          refine lv_iload S.1 S.2.1 dL_same_94 (lv_at hl 1 rfl) ?_
          refine lv_iload S.1 S.2.1 dL_same_96 (lv_at hl 14 rfl) ?_
          refine lv_icmp_le (tgt := 106) S.1 S.2.1 dL_same_98 (by decide) (fun hc43 => ?_) (fun hc43 => ?_)
          · replace hF := z_ct hF hc43
            refine lv_iload S.1 S.2.1 dL_same_106 (lv_at hl 14 rfl) ?_
            refine lv_istore (lv' := [(12, .int a12), (13, .int a15), (16, .int r26), (0, .ref (g.1 0 0)), (1, .ref (g.1 26 0)), (2, .ref (g.1 27 0)), (3, .ref (g.1 28 0)), (4, .ref (g.1 29 0)), (5, .int a5), (6, .int a6), (7, .int a7), (8, .int a8), (9, .int a9), (10, .int a10), (11, .int a11), (14, .int a14), (15, .int a15)]) S.1 S.2.1 dL_same_108 hl (by decide) rfl (fun ls hl => ?_)
            refine lv_aload_n S.1 S.2.1 dL_same_110 rfl (lv_at hl 3 rfl) ?_
            refine lv_iload S.1 S.2.1 dL_same_111 (lv_at hl 12 rfl) ?_
            refine lv_iload S.1 S.2.1 dL_same_113 (lv_at hl 16 rfl) ?_
            refine z_goi hS hF (fun _ _ ho => va_runV (C := RX6) (n := 2) (As := [.int a9, .int a15]) (rest := []) S (kX6_wear l hg ho) (cwV 2 S.2.2.2.2 (zgV wm_L_31 oX6_wear) rfl rfl rfl hX6_wear ⟨Nat.le_of_ble_eq_true rfl, Nat.le_of_ble_eq_true rfl⟩) ⟨zPc_blind, z_recv hK hR (by decide) rfl rfl, z_pre hK hR⟩ rfl rfl hl.1 rfl (lv_room (Nat.le_of_ble_eq_true rfl)) dL_same_115 ⟨Nat.zero_le _, Nat.zero_le _⟩) (fun r45 M44 H locs hR hS hF => ?_)
            refine lv_iload S.1 S.2.1 dL_same_118 (lv_at hl 14 rfl) ?_
            refine lv_if_eq (tgt := 128) S.1 S.2.1 dL_same_120 (by decide) (fun hc46 => ?_) (fun hc46 => ?_)
            · replace hF := z_ct hF hc46
              refine lv_bipush (v := (-5)) S.1 S.2.1 dL_same_128 (by decide) ?_
              refine lv_icmp_eq (tgt := 135) S.1 S.2.1 dL_same_130 (by decide) (fun hc47 => ?_) (fun hc47 => ?_)
              · replace hF := z_ct hF hc47
                obtain ⟨v48, ev48, hF⟩ := zL_out hF
                refine lv_iinc (v := v48) (lv' := [(15, .int v48), (12, .int a12), (13, .int a15), (16, .int r26), (0, .ref (g.1 0 0)), (1, .ref (g.1 26 0)), (2, .ref (g.1 27 0)), (3, .ref (g.1 28 0)), (4, .ref (g.1 29 0)), (5, .int a5), (6, .int a6), (7, .int a7), (8, .int a8), (9, .int a9), (10, .int a10), (11, .int a11), (14, .int a14)]) S.1 S.2.1 dL_same_135 hl (k := 16) rfl (by rw [← ev48]; rfl) (by decide) rfl (fun ls hl => ?_)
                refine lv_goto (tgt := 61) S.1 S.2.1 dL_same_138 (by decide) ?_
                exact ih _ _ _ _ _ _ hR hS _ (lv_sub hl [4, 5, 6, 7, 8, 9, 10, 11, 12, 13, 14, 15, 1, 2, 16, 0] rfl) hF
              · replace hF := z_cf hF hc47
                refine lv_iconst (v := 0) S.1 S.2.1 dL_same_133 (by decide) ?_
                exact z_zretc S hr hlk hR hS (by decide) hF dL_same_134
            · replace hF := z_cf hF hc46
              refine lv_iload S.1 S.2.1 dL_same_123 (lv_at hl 2 rfl) ?_
              refine lv_goto (tgt := 130) S.1 S.2.1 dL_same_125 (by decide) ?_
              refine lv_icmp_eq (tgt := 135) S.1 S.2.1 dL_same_130 (by decide) (fun hc49 => ?_) (fun hc49 => ?_)
              · replace hF := z_ct hF hc49
                obtain ⟨v50, ev50, hF⟩ := zL_out hF
                refine lv_iinc (v := v50) (lv' := [(15, .int v50), (12, .int a12), (13, .int a15), (16, .int r26), (0, .ref (g.1 0 0)), (1, .ref (g.1 26 0)), (2, .ref (g.1 27 0)), (3, .ref (g.1 28 0)), (4, .ref (g.1 29 0)), (5, .int a5), (6, .int a6), (7, .int a7), (8, .int a8), (9, .int a9), (10, .int a10), (11, .int a11), (14, .int a14)]) S.1 S.2.1 dL_same_135 hl (k := 16) rfl (by rw [← ev50]; rfl) (by decide) rfl (fun ls hl => ?_)
                refine lv_goto (tgt := 61) S.1 S.2.1 dL_same_138 (by decide) ?_
                exact ih _ _ _ _ _ _ hR hS _ (lv_sub hl [4, 5, 6, 7, 8, 9, 10, 11, 12, 13, 14, 15, 1, 2, 16, 0] rfl) hF
              · replace hF := z_cf hF hc49
                refine lv_iconst (v := 0) S.1 S.2.1 dL_same_133 (by decide) ?_
                exact z_zretc S hr hlk hR hS (by decide) hF dL_same_134
          · replace hF := z_cf hF hc43
            refine lv_iload S.1 S.2.1 dL_same_101 (lv_at hl 1 rfl) ?_
            refine lv_goto (tgt := 108) S.1 S.2.1 dL_same_103 (by decide) ?_
            refine lv_istore (lv' := [(12, .int r26), (13, .int a15), (16, .int r26), (0, .ref (g.1 0 0)), (1, .ref (g.1 26 0)), (2, .ref (g.1 27 0)), (3, .ref (g.1 28 0)), (4, .ref (g.1 29 0)), (5, .int a5), (6, .int a6), (7, .int a7), (8, .int a8), (9, .int a9), (10, .int a10), (11, .int a11), (14, .int a14), (15, .int a15)]) S.1 S.2.1 dL_same_108 hl (by decide) rfl (fun ls hl => ?_)
            refine lv_aload_n S.1 S.2.1 dL_same_110 rfl (lv_at hl 3 rfl) ?_
            refine lv_iload S.1 S.2.1 dL_same_111 (lv_at hl 12 rfl) ?_
            refine lv_iload S.1 S.2.1 dL_same_113 (lv_at hl 16 rfl) ?_
            refine z_goi hS hF (fun _ _ ho => va_runV (C := RX6) (n := 2) (As := [.int a9, .int a15]) (rest := []) S (kX6_wear l hg ho) (cwV 2 S.2.2.2.2 (zgV wm_L_31 oX6_wear) rfl rfl rfl hX6_wear ⟨Nat.le_of_ble_eq_true rfl, Nat.le_of_ble_eq_true rfl⟩) ⟨zPc_blind, z_recv hK hR (by decide) rfl rfl, z_pre hK hR⟩ rfl rfl hl.1 rfl (lv_room (Nat.le_of_ble_eq_true rfl)) dL_same_115 ⟨Nat.zero_le _, Nat.zero_le _⟩) (fun r52 M51 H locs hR hS hF => ?_)
            refine lv_iload S.1 S.2.1 dL_same_118 (lv_at hl 14 rfl) ?_
            refine lv_if_eq (tgt := 128) S.1 S.2.1 dL_same_120 (by decide) (fun hc53 => ?_) (fun hc53 => ?_)
            · replace hF := z_ct hF hc53
              refine lv_bipush (v := (-5)) S.1 S.2.1 dL_same_128 (by decide) ?_
              refine lv_icmp_eq (tgt := 135) S.1 S.2.1 dL_same_130 (by decide) (fun hc54 => ?_) (fun hc54 => ?_)
              · replace hF := z_ct hF hc54
                obtain ⟨v55, ev55, hF⟩ := zL_out hF
                refine lv_iinc (v := v55) (lv' := [(15, .int v55), (12, .int r26), (13, .int a15), (16, .int r26), (0, .ref (g.1 0 0)), (1, .ref (g.1 26 0)), (2, .ref (g.1 27 0)), (3, .ref (g.1 28 0)), (4, .ref (g.1 29 0)), (5, .int a5), (6, .int a6), (7, .int a7), (8, .int a8), (9, .int a9), (10, .int a10), (11, .int a11), (14, .int a14)]) S.1 S.2.1 dL_same_135 hl (k := 16) rfl (by rw [← ev55]; rfl) (by decide) rfl (fun ls hl => ?_)
                refine lv_goto (tgt := 61) S.1 S.2.1 dL_same_138 (by decide) ?_
                exact ih _ _ _ _ _ _ hR hS _ (lv_sub hl [4, 5, 6, 7, 8, 9, 10, 11, 12, 13, 14, 15, 1, 2, 16, 0] rfl) hF
              · replace hF := z_cf hF hc54
                refine lv_iconst (v := 0) S.1 S.2.1 dL_same_133 (by decide) ?_
                exact z_zretc S hr hlk hR hS (by decide) hF dL_same_134
            · replace hF := z_cf hF hc53
              refine lv_iload S.1 S.2.1 dL_same_123 (lv_at hl 2 rfl) ?_
              refine lv_goto (tgt := 130) S.1 S.2.1 dL_same_125 (by decide) ?_
              refine lv_icmp_eq (tgt := 135) S.1 S.2.1 dL_same_130 (by decide) (fun hc56 => ?_) (fun hc56 => ?_)
              · replace hF := z_ct hF hc56
                obtain ⟨v57, ev57, hF⟩ := zL_out hF
                refine lv_iinc (v := v57) (lv' := [(15, .int v57), (12, .int r26), (13, .int a15), (16, .int r26), (0, .ref (g.1 0 0)), (1, .ref (g.1 26 0)), (2, .ref (g.1 27 0)), (3, .ref (g.1 28 0)), (4, .ref (g.1 29 0)), (5, .int a5), (6, .int a6), (7, .int a7), (8, .int a8), (9, .int a9), (10, .int a10), (11, .int a11), (14, .int a14)]) S.1 S.2.1 dL_same_135 hl (k := 16) rfl (by rw [← ev57]; rfl) (by decide) rfl (fun ls hl => ?_)
                refine lv_goto (tgt := 61) S.1 S.2.1 dL_same_138 (by decide) ?_
                exact ih _ _ _ _ _ _ hR hS _ (lv_sub hl [4, 5, 6, 7, 8, 9, 10, 11, 12, 13, 14, 15, 1, 2, 16, 0] rfl) hF
              · replace hF := z_cf hF hc56
                refine lv_iconst (v := 0) S.1 S.2.1 dL_same_133 (by decide) ?_
                exact z_zretc S hr hlk hR hS (by decide) hF dL_same_134
  have L144 : ∀ (k : zM → Int32 → Int32 → Int32 → Option (Int32 × zM)) (a5 : Int32) (a7 : Int32) (a8 : Int32) (a9 : Int32) (a10 : Int32) (a11 : Int32) (a12 : Int32) (a13 : Int32), (∀ (M : zM) (a6 : Int32) (a14 : Int32) (a15 : Int32) (H : Heap) (locs : List Loc), zR g M H → va_S (zS z) s.heap H locs → ∀ ls : Array Slot, lv_has ls 17 [(0, .ref (g.1 0 0)), (1, .ref (g.1 26 0)), (2, .ref (g.1 27 0)), (3, .ref (g.1 28 0)), (4, .ref (g.1 29 0)), (5, .int a5), (6, .int a6), (7, .int a7), (8, .int a8), (9, .int a9), (10, .int a10), (11, .int a11), (12, .int a12), (13, .int a13), (14, .int a14), (15, .int a15)] → k M a6 a14 a15 = some (r, M') → W p l e { frames := 6, cells := 0, slots := 0, locals := 134 } s m ([.ref (g.1 0 0), .ref (g.1 26 0), .ref (g.1 27 0), .ref (g.1 28 0), .ref (g.1 29 0)] : List Value).toArray below meth c H locs 0 0 (MQ below (zQi g z r M') ([.ref (g.1 0 0), .ref (g.1 26 0), .ref (g.1 27 0), .ref (g.1 28 0), .ref (g.1 29 0)] : List Value).toArray s 0 0 (zS z)) (F0 m 413 ls [])) → ∀ (n : Nat) (M : zM) (a6 : Int32) (a14 : Int32) (a15 : Int32) (H : Heap) (locs : List Loc), zR g M H → va_S (zS z) s.heap H locs → ∀ ls : Array Slot, lv_has ls 17 [(0, .ref (g.1 0 0)), (1, .ref (g.1 26 0)), (2, .ref (g.1 27 0)), (3, .ref (g.1 28 0)), (4, .ref (g.1 29 0)), (5, .int a5), (6, .int a6), (7, .int a7), (8, .int a8), (9, .int a9), (10, .int a10), (11, .int a11), (12, .int a12), (13, .int a13), (14, .int a14), (15, .int a15)] → fL_same_L144 k a5 a7 a8 a9 a10 a11 a12 a13 n M a6 a14 a15 = some (r, M') → W p l e { frames := 6, cells := 0, slots := 0, locals := 134 } s m ([.ref (g.1 0 0), .ref (g.1 26 0), .ref (g.1 27 0), .ref (g.1 28 0), .ref (g.1 29 0)] : List Value).toArray below meth c H locs 0 0 (MQ below (zQi g z r M') ([.ref (g.1 0 0), .ref (g.1 26 0), .ref (g.1 27 0), .ref (g.1 28 0), .ref (g.1 29 0)] : List Value).toArray s 0 0 (zS z)) (F0 m 144 ls []) := by
    intro k a5 a7 a8 a9 a10 a11 a12 a13 hk n
    induction n with
    | zero =>
      intro M a6 a14 a15 H locs hR hS ls hl hF
      cases hF
    | succ n ih =>
      intro M a6 a14 a15 H locs hR hS ls hl hF
      unfold fL_same_L144 at hF
      refine lv_iload S.1 S.2.1 dL_same_144 (lv_at hl 15 rfl) ?_
      refine lv_aload_n S.1 S.2.1 dL_same_146 rfl (lv_at hl 1 rfl) ?_
      refine lv_iconst (v := 0) S.1 S.2.1 dL_same_147 (by decide) ?_
      refine z_iald (k := 26) (i := 0) (n := 4) S hK hR hF (by decide) rfl dL_same_148 (fun hF => ?_)
      refine lv_icmp_ge (tgt := 413) S.1 S.2.1 dL_same_149 (by decide) (fun hc62 => ?_) (fun hc62 => ?_)
      · replace hF := z_ct hF hc62
        exact hk _ _ _ _ _ _ hR hS _ (lv_sub hl [0, 1, 2, 3, 4, 5, 6, 7, 8, 9, 10, 11, 12, 13, 14, 15] rfl) hF
      · replace hF := z_cf hF hc62
        refine lv_iload S.1 S.2.1 dL_same_152 (lv_at hl 15 rfl) ?_
        refine lv_iload S.1 S.2.1 dL_same_154 (lv_at hl 9 rfl) ?_
        refine lv_icmp_ne (tgt := 162) S.1 S.2.1 dL_same_156 (by decide) (fun hc63 => ?_) (fun hc63 => ?_)
        · replace hF := z_cf hF hc63
          refine lv_iload S.1 S.2.1 dL_same_162 (lv_at hl 9 rfl) ?_
          refine lv_iload S.1 S.2.1 dL_same_164 (lv_at hl 15 rfl) ?_
          refine lv_aload_n S.1 S.2.1 dL_same_166 rfl (lv_at hl 2 rfl) ?_
          refine z_goi hS hF (fun _ _ ho => va_runS (n := 3) (As := [.int a9, .int a15, .ref (g.1 27 0)]) (rest := []) S (kL_place l hg (by decide) rfl ho) (va_cwS 3 S.2.2.2.2 (zgS wm_L_16 oL_place) rfl rfl rfl hL_place.2 ⟨Nat.le_of_ble_eq_true rfl, Nat.le_of_ble_eq_true rfl⟩) ⟨zPc_blind, z_pre hK hR⟩ rfl rfl hl.1 rfl (lv_room (Nat.le_of_ble_eq_true rfl)) dL_same_167 ⟨Nat.zero_le _, Nat.zero_le _⟩) (fun r65 M64 H locs hR hS hF => ?_)
          refine lv_istore (lv' := [(16, .int r65), (0, .ref (g.1 0 0)), (1, .ref (g.1 26 0)), (2, .ref (g.1 27 0)), (3, .ref (g.1 28 0)), (4, .ref (g.1 29 0)), (5, .int a5), (6, .int a6), (7, .int a7), (8, .int a8), (9, .int a9), (10, .int a10), (11, .int a11), (12, .int a12), (13, .int a13), (14, .int a14), (15, .int a15)]) S.1 S.2.1 dL_same_170 hl (by decide) rfl (fun ls hl => ?_)
          refine lv_iload S.1 S.2.1 dL_same_172 (lv_at hl 15 rfl) ?_
          refine lv_iload S.1 S.2.1 dL_same_174 (lv_at hl 0 rfl) ?_
          refine lv_if_ge (tgt := 183) S.1 S.2.1 dL_same_176 (by decide) (fun hc66 => ?_) (fun hc66 => ?_)
          · replace hF := z_ct hF hc66
            refine lv_iconst (v := 1) S.1 S.2.1 dL_same_183 (by decide) ?_
            refine lv_iload S.1 S.2.1 dL_same_184 (lv_at hl 16 rfl) ?_
            refine lv_ishl S.1 S.2.1 dL_same_186 ?_
            refine lv_ior S.1 S.2.1 dL_same_187 ?_
            refine z_nm hF (fun v67 hF => ?_)
            refine lv_istore (lv' := [(14, .int v67), (16, .int r65), (0, .ref (g.1 0 0)), (1, .ref (g.1 26 0)), (2, .ref (g.1 27 0)), (3, .ref (g.1 28 0)), (4, .ref (g.1 29 0)), (5, .int a5), (6, .int a6), (7, .int a7), (8, .int a8), (9, .int a9), (10, .int a10), (11, .int a11), (12, .int a12), (13, .int a13), (15, .int a15)]) S.1 S.2.1 dL_same_188 hl (by decide) rfl (fun ls hl => ?_)
            refine lv_iload S.1 S.2.1 dL_same_190 (lv_at hl 8 rfl) ?_
            refine lv_iload S.1 S.2.1 dL_same_192 (lv_at hl 1 rfl) ?_
            refine lv_if_lt (tgt := 208) S.1 S.2.1 dL_same_194 (by decide) (fun hc => absurd hc (Int32.not_lt.mpr hc66)) (fun _ => ?_)
            refine lv_iload S.1 S.2.1 dL_same_197 (lv_at hl 16 rfl) ?_
            refine lv_iload S.1 S.2.1 dL_same_199 (lv_at hl 11 rfl) ?_
            refine lv_icmp_ge (tgt := 208) S.1 S.2.1 dL_same_201 (by decide) (fun hc68 => ?_) (fun hc68 => ?_)
            · replace hF := z_ct hF hc68
              refine lv_iconst (v := 0) S.1 S.2.1 dL_same_208 (by decide) ?_
              refine lv_iadd S.1 S.2.1 dL_same_209 ?_
              refine z_nm hF (fun v69 hF => ?_)
              refine lv_istore (lv' := [(6, .int v69), (14, .int v67), (16, .int r65), (0, .ref (g.1 0 0)), (1, .ref (g.1 26 0)), (2, .ref (g.1 27 0)), (3, .ref (g.1 28 0)), (4, .ref (g.1 29 0)), (5, .int a5), (7, .int a7), (8, .int a8), (9, .int a9), (10, .int a10), (11, .int a11), (12, .int a12), (13, .int a13), (15, .int a15)]) S.1 S.2.1 dL_same_210 hl (by decide) rfl (fun ls hl => ?_)
              refine lv_iload S.1 S.2.1 dL_same_212 (lv_at hl 13 rfl) ?_
              refine lv_if_eq (tgt := 407) S.1 S.2.1 dL_same_214 (by decide) (fun hc70 => ?_) (fun hc70 => ?_)
              · replace hF := z_ct hF hc70
                obtain ⟨v71, ev71, hF⟩ := zL_out hF
                refine lv_iinc (v := v71) (lv' := [(15, .int v71), (6, .int v69), (14, .int v67), (16, .int r65), (0, .ref (g.1 0 0)), (1, .ref (g.1 26 0)), (2, .ref (g.1 27 0)), (3, .ref (g.1 28 0)), (4, .ref (g.1 29 0)), (5, .int a5), (7, .int a7), (8, .int a8), (9, .int a9), (10, .int a10), (11, .int a11), (12, .int a12), (13, .int a13)]) S.1 S.2.1 dL_same_407 hl (k := 16) rfl (by rw [← ev71]; rfl) (by decide) rfl (fun ls hl => ?_)
                refine lv_goto (tgt := 144) S.1 S.2.1 dL_same_410 (by decide) ?_
                exact ih _ _ _ _ _ _ hR hS _ (lv_sub hl [4, 5, 6, 7, 8, 9, 1, 10, 11, 12, 13, 14, 15, 16, 2, 0] rfl) hF
              · replace hF := z_cf hF hc70
                refine lv_aload_n S.1 S.2.1 dL_same_217 rfl (lv_at hl 5 rfl) ?_
                refine lv_bipush (v := 12) S.1 S.2.1 dL_same_218 (by decide) ?_
                refine lv_iload S.1 S.2.1 dL_same_220 (lv_at hl 16 rfl) ?_
                refine lv_imul S.1 S.2.1 dL_same_222 ?_
                refine lv_bipush (v := 8) S.1 S.2.1 dL_same_223 (by decide) ?_
                refine lv_iadd S.1 S.2.1 dL_same_225 ?_
                refine z_iald (k := 27) (i := 0) (n := 48) S hK hR hF (by decide) rfl dL_same_226 (fun hF => ?_)
                refine lv_if_ne (tgt := 407) S.1 S.2.1 dL_same_227 (by decide) (fun hc72 => ?_) (fun hc72 => ?_)
                · replace hF := z_cf hF hc72
                  obtain ⟨v73, ev73, hF⟩ := zL_out hF
                  refine lv_iinc (v := v73) (lv' := [(15, .int v73), (6, .int v69), (14, .int v67), (16, .int r65), (0, .ref (g.1 0 0)), (1, .ref (g.1 26 0)), (2, .ref (g.1 27 0)), (3, .ref (g.1 28 0)), (4, .ref (g.1 29 0)), (5, .int a5), (7, .int a7), (8, .int a8), (9, .int a9), (10, .int a10), (11, .int a11), (12, .int a12), (13, .int a13)]) S.1 S.2.1 dL_same_407 hl (k := 16) rfl (by rw [← ev73]; rfl) (by decide) rfl (fun ls hl => ?_)
                  refine lv_goto (tgt := 144) S.1 S.2.1 dL_same_410 (by decide) ?_
                  exact ih _ _ _ _ _ _ hR hS _ (lv_sub hl [4, 5, 6, 7, 8, 9, 1, 10, 11, 12, 13, 14, 15, 16, 2, 0] rfl) hF
                · replace hF := z_ct hF hc72
                  refine lv_aload_n S.1 S.2.1 dL_same_230 rfl (lv_at hl 3 rfl) ?_
                  refine lv_iload S.1 S.2.1 dL_same_231 (lv_at hl 11 rfl) ?_
                  refine lv_iload S.1 S.2.1 dL_same_233 (lv_at hl 16 rfl) ?_
                  refine lv_iconst (v := 0) S.1 S.2.1 dL_same_235 (by decide) ?_
                  refine z_goi hS hF (fun _ _ ho => va_runV (C := RX6) (n := 3) (As := [.int a9, .int a15, .int 0]) (rest := []) S (kX6_crossing l hg ho) (cwV 3 S.2.2.2.2 (zgV wm_L_36 oX6_crossing) rfl rfl rfl hX6_crossing ⟨Nat.le_of_ble_eq_true rfl, Nat.le_of_ble_eq_true rfl⟩) ⟨zPc_blind, z_recv hK hR (by decide) rfl rfl, z_pre hK hR⟩ rfl rfl hl.1 rfl (lv_room (Nat.le_of_ble_eq_true rfl)) dL_same_236 ⟨Nat.zero_le _, Nat.zero_le _⟩) (fun r75 M74 H locs hR hS hF => ?_)
                  refine lv_iload S.1 S.2.1 dL_same_239 (lv_at hl 2 rfl) ?_
                  refine lv_if_ge (tgt := 248) S.1 S.2.1 dL_same_241 (by decide) (fun _ => ?_) (fun hc => absurd hc66 hc)
                  refine lv_iconst (v := 1) S.1 S.2.1 dL_same_248 (by decide) ?_
                  refine lv_icmp_ne (tgt := 405) S.1 S.2.1 dL_same_249 (by decide) (fun hc76 => ?_) (fun hc76 => ?_)
                  · replace hF := z_cf hF hc76
                    refine lv_iconst (v := 0) S.1 S.2.1 dL_same_405 (by decide) ?_
                    exact z_zretc S hr hlk hR hS (by decide) hF dL_same_406
                  · replace hF := z_ct hF hc76
                    refine lv_aload_n S.1 S.2.1 dL_same_252 rfl (lv_at hl 3 rfl) ?_
                    refine lv_iload S.1 S.2.1 dL_same_253 (lv_at hl 11 rfl) ?_
                    refine lv_iload S.1 S.2.1 dL_same_255 (lv_at hl 16 rfl) ?_
                    refine lv_iconst (v := 1) S.1 S.2.1 dL_same_257 (by decide) ?_
                    refine z_goi hS hF (fun _ _ ho => va_runV (C := RX6) (n := 3) (As := [.int a9, .int a15, .int 1]) (rest := []) S (kX6_crossing l hg ho) (cwV 3 S.2.2.2.2 (zgV wm_L_36 oX6_crossing) rfl rfl rfl hX6_crossing ⟨Nat.le_of_ble_eq_true rfl, Nat.le_of_ble_eq_true rfl⟩) ⟨zPc_blind, z_recv hK hR (by decide) rfl rfl, z_pre hK hR⟩ rfl rfl hl.1 rfl (lv_room (Nat.le_of_ble_eq_true rfl)) dL_same_258 ⟨Nat.zero_le _, Nat.zero_le _⟩) (fun r78 M77 H locs hR hS hF => ?_)
                    refine lv_iload S.1 S.2.1 dL_same_261 (lv_at hl 2 rfl) ?_
                    refine lv_if_ge (tgt := 271) S.1 S.2.1 dL_same_263 (by decide) (fun _ => ?_) (fun hc => absurd hc66 hc)
                    refine lv_iload S.1 S.2.1 dL_same_271 (lv_at hl 2 rfl) ?_
                    refine lv_bipush (v := 64) S.1 S.2.1 dL_same_273 (by decide) ?_
                    refine z_irem S.1 S.2.1 dL_same_275 (by decide) ?_
                    refine lv_icmp_ne (tgt := 405) S.1 S.2.1 dL_same_276 (by decide) (fun hc79 => ?_) (fun hc79 => ?_)
                    · replace hF := z_cf hF hc79
                      refine lv_iconst (v := 0) S.1 S.2.1 dL_same_405 (by decide) ?_
                      exact z_zretc S hr hlk hR hS (by decide) hF dL_same_406
                    · replace hF := z_ct hF hc79
                      refine lv_aload_n S.1 S.2.1 dL_same_279 rfl (lv_at hl 3 rfl) ?_
                      refine lv_iload S.1 S.2.1 dL_same_280 (lv_at hl 16 rfl) ?_
                      refine lv_iload S.1 S.2.1 dL_same_282 (lv_at hl 11 rfl) ?_
                      refine lv_iconst (v := 2) S.1 S.2.1 dL_same_284 (by decide) ?_
                      refine z_goi hS hF (fun _ _ ho => va_runV (C := RX6) (n := 3) (As := [.int a15, .int a9, .int 2]) (rest := []) S (kX6_crossing l hg ho) (cwV 3 S.2.2.2.2 (zgV wm_L_36 oX6_crossing) rfl rfl rfl hX6_crossing ⟨Nat.le_of_ble_eq_true rfl, Nat.le_of_ble_eq_true rfl⟩) ⟨zPc_blind, z_recv hK hR (by decide) rfl rfl, z_pre hK hR⟩ rfl rfl hl.1 rfl (lv_room (Nat.le_of_ble_eq_true rfl)) dL_same_285 ⟨Nat.zero_le _, Nat.zero_le _⟩) (fun r81 M80 H locs hR hS hF => ?_)
                      refine lv_iload S.1 S.2.1 dL_same_288 (lv_at hl 2 rfl) ?_
                      refine lv_if_ge (tgt := 298) S.1 S.2.1 dL_same_290 (by decide) (fun _ => ?_) (fun hc => absurd hc66 hc)
                      refine lv_iload S.1 S.2.1 dL_same_298 (lv_at hl 2 rfl) ?_
                      refine lv_bipush (v := 64) S.1 S.2.1 dL_same_300 (by decide) ?_
                      refine z_irem S.1 S.2.1 dL_same_302 (by decide) ?_
                      refine lv_icmp_ne (tgt := 405) S.1 S.2.1 dL_same_303 (by decide) (fun hc82 => ?_) (fun hc82 => ?_)
                      · replace hF := z_cf hF hc82
                        refine lv_iconst (v := 0) S.1 S.2.1 dL_same_405 (by decide) ?_
                        exact z_zretc S hr hlk hR hS (by decide) hF dL_same_406
                      · replace hF := z_ct hF hc82
                        refine lv_aload_n S.1 S.2.1 dL_same_306 rfl (lv_at hl 3 rfl) ?_
                        refine lv_iload S.1 S.2.1 dL_same_307 (lv_at hl 11 rfl) ?_
                        refine lv_iload S.1 S.2.1 dL_same_309 (lv_at hl 16 rfl) ?_
                        refine lv_iconst (v := 3) S.1 S.2.1 dL_same_311 (by decide) ?_
                        refine z_goi hS hF (fun _ _ ho => va_runV (C := RX6) (n := 3) (As := [.int a9, .int a15, .int 3]) (rest := []) S (kX6_crossing l hg ho) (cwV 3 S.2.2.2.2 (zgV wm_L_36 oX6_crossing) rfl rfl rfl hX6_crossing ⟨Nat.le_of_ble_eq_true rfl, Nat.le_of_ble_eq_true rfl⟩) ⟨zPc_blind, z_recv hK hR (by decide) rfl rfl, z_pre hK hR⟩ rfl rfl hl.1 rfl (lv_room (Nat.le_of_ble_eq_true rfl)) dL_same_312 ⟨Nat.zero_le _, Nat.zero_le _⟩) (fun r84 M83 H locs hR hS hF => ?_)
                        refine lv_iload S.1 S.2.1 dL_same_315 (lv_at hl 2 rfl) ?_
                        refine lv_if_ge (tgt := 325) S.1 S.2.1 dL_same_317 (by decide) (fun _ => ?_) (fun hc => absurd hc66 hc)
                        refine lv_iload S.1 S.2.1 dL_same_325 (lv_at hl 2 rfl) ?_
                        refine lv_bipush (v := 64) S.1 S.2.1 dL_same_327 (by decide) ?_
                        refine lv_idiv S.1 S.2.1 dL_same_329 (by decide) ?_
                        refine lv_icmp_ne (tgt := 405) S.1 S.2.1 dL_same_330 (by decide) (fun hc85 => ?_) (fun hc85 => ?_)
                        · replace hF := z_cf hF hc85
                          refine lv_iconst (v := 0) S.1 S.2.1 dL_same_405 (by decide) ?_
                          exact z_zretc S hr hlk hR hS (by decide) hF dL_same_406
                        · replace hF := z_ct hF hc85
                          refine lv_aload_n S.1 S.2.1 dL_same_333 rfl (lv_at hl 3 rfl) ?_
                          refine lv_iload S.1 S.2.1 dL_same_334 (lv_at hl 11 rfl) ?_
                          refine lv_iload S.1 S.2.1 dL_same_336 (lv_at hl 16 rfl) ?_
                          refine lv_iconst (v := 4) S.1 S.2.1 dL_same_338 (by decide) ?_
                          refine z_goi hS hF (fun _ _ ho => va_runV (C := RX6) (n := 3) (As := [.int a9, .int a15, .int 4]) (rest := []) S (kX6_crossing l hg ho) (cwV 3 S.2.2.2.2 (zgV wm_L_36 oX6_crossing) rfl rfl rfl hX6_crossing ⟨Nat.le_of_ble_eq_true rfl, Nat.le_of_ble_eq_true rfl⟩) ⟨zPc_blind, z_recv hK hR (by decide) rfl rfl, z_pre hK hR⟩ rfl rfl hl.1 rfl (lv_room (Nat.le_of_ble_eq_true rfl)) dL_same_339 ⟨Nat.zero_le _, Nat.zero_le _⟩) (fun r87 M86 H locs hR hS hF => ?_)
                          refine lv_iload S.1 S.2.1 dL_same_342 (lv_at hl 11 rfl) ?_
                          refine lv_iload S.1 S.2.1 dL_same_344 (lv_at hl 16 rfl) ?_
                          refine lv_aload_n S.1 S.2.1 dL_same_346 rfl (lv_at hl 5 rfl) ?_
                          refine z_goi hS hF (fun _ _ ho => va_runS (n := 3) (As := [.int a9, .int a15, .ref (g.1 27 0)]) (rest := [.int r87]) S (kL_sliding l hg (by decide) rfl ho) (va_cwS 3 S.2.2.2.2 (zgS wm_L_20 oL_sliding) rfl rfl rfl hL_sliding.2 ⟨Nat.le_of_ble_eq_true rfl, Nat.le_of_ble_eq_true rfl⟩) ⟨zPc_blind, z_pre hK hR⟩ rfl rfl hl.1 rfl (lv_room (Nat.le_of_ble_eq_true rfl)) dL_same_347 ⟨Nat.zero_le _, Nat.zero_le _⟩) (fun r89 M88 H locs hR hS hF => ?_)
                          refine lv_icmp_ne (tgt := 405) S.1 S.2.1 dL_same_350 (by decide) (fun hc90 => ?_) (fun hc90 => ?_)
                          · replace hF := z_cf hF hc90
                            refine lv_iconst (v := 0) S.1 S.2.1 dL_same_405 (by decide) ?_
                            exact z_zretc S hr hlk hR hS (by decide) hF dL_same_406
                          · replace hF := z_ct hF hc90
                            refine lv_aload_n S.1 S.2.1 dL_same_353 rfl (lv_at hl 3 rfl) ?_
                            refine lv_iload S.1 S.2.1 dL_same_354 (lv_at hl 11 rfl) ?_
                            refine lv_iload S.1 S.2.1 dL_same_356 (lv_at hl 16 rfl) ?_
                            refine lv_iconst (v := 5) S.1 S.2.1 dL_same_358 (by decide) ?_
                            refine z_goi hS hF (fun _ _ ho => va_runV (C := RX6) (n := 3) (As := [.int a9, .int a15, .int 5]) (rest := []) S (kX6_crossing l hg ho) (cwV 3 S.2.2.2.2 (zgV wm_L_36 oX6_crossing) rfl rfl rfl hX6_crossing ⟨Nat.le_of_ble_eq_true rfl, Nat.le_of_ble_eq_true rfl⟩) ⟨zPc_blind, z_recv hK hR (by decide) rfl rfl, z_pre hK hR⟩ rfl rfl hl.1 rfl (lv_room (Nat.le_of_ble_eq_true rfl)) dL_same_359 ⟨Nat.zero_le _, Nat.zero_le _⟩) (fun r92 M91 H locs hR hS hF => ?_)
                            refine lv_iload S.1 S.2.1 dL_same_362 (lv_at hl 2 rfl) ?_
                            refine lv_if_ge (tgt := 371) S.1 S.2.1 dL_same_364 (by decide) (fun _ => ?_) (fun hc => absurd hc66 hc)
                            refine lv_aload_n S.1 S.2.1 dL_same_371 rfl (lv_at hl 5 rfl) ?_
                            refine lv_bipush (v := 12) S.1 S.2.1 dL_same_372 (by decide) ?_
                            refine lv_iload S.1 S.2.1 dL_same_374 (lv_at hl 16 rfl) ?_
                            refine lv_imul S.1 S.2.1 dL_same_376 ?_
                            refine lv_iconst (v := 5) S.1 S.2.1 dL_same_377 (by decide) ?_
                            refine lv_iadd S.1 S.2.1 dL_same_378 ?_
                            refine z_iald (k := 27) (i := 0) (n := 48) S hK hR hF (by decide) rfl dL_same_379 (fun hF => ?_)
                            refine lv_iload S.1 S.2.1 dL_same_380 (lv_at hl 11 rfl) ?_
                            refine lv_iload S.1 S.2.1 dL_same_382 (lv_at hl 16 rfl) ?_
                            refine lv_aload_n S.1 S.2.1 dL_same_384 rfl (lv_at hl 5 rfl) ?_
                            refine z_goi hS hF (fun _ _ ho => va_runS (n := 3) (As := [.int a9, .int a15, .ref (g.1 27 0)]) (rest := [.int (M91 27 0 (zN ((12 * a15) + 5))), .int r92]) S (kL_sliding l hg (by decide) rfl ho) (va_cwS 3 S.2.2.2.2 (zgS wm_L_20 oL_sliding) rfl rfl rfl hL_sliding.2 ⟨Nat.le_of_ble_eq_true rfl, Nat.le_of_ble_eq_true rfl⟩) ⟨zPc_blind, z_pre hK hR⟩ rfl rfl hl.1 rfl (lv_room (Nat.le_of_ble_eq_true rfl)) dL_same_385 ⟨Nat.zero_le _, Nat.zero_le _⟩) (fun r94 M93 H locs hR hS hF => ?_)
                            refine lv_imul S.1 S.2.1 dL_same_388 ?_
                            refine lv_iload S.1 S.2.1 dL_same_389 (lv_at hl 2 rfl) ?_
                            refine lv_bipush (v := 63) S.1 S.2.1 dL_same_391 (by decide) ?_
                            refine lv_icmp_le (tgt := 400) S.1 S.2.1 dL_same_393 (by decide) (fun hc95 => ?_) (fun hc95 => ?_)
                            · replace hF := z_ct hF hc95
                              refine lv_iconst (v := 1) S.1 S.2.1 dL_same_400 (by decide) ?_
                              refine lv_imul S.1 S.2.1 dL_same_401 ?_
                              refine lv_icmp_eq (tgt := 407) S.1 S.2.1 dL_same_402 (by decide) (fun hc96 => ?_) (fun hc96 => ?_)
                              · replace hF := z_ct hF hc96
                                obtain ⟨v97, ev97, hF⟩ := zL_out hF
                                refine lv_iinc (v := v97) (lv' := [(15, .int v97), (6, .int v69), (14, .int v67), (16, .int r65), (0, .ref (g.1 0 0)), (1, .ref (g.1 26 0)), (2, .ref (g.1 27 0)), (3, .ref (g.1 28 0)), (4, .ref (g.1 29 0)), (5, .int a5), (7, .int a7), (8, .int a8), (9, .int a9), (10, .int a10), (11, .int a11), (12, .int a12), (13, .int a13)]) S.1 S.2.1 dL_same_407 hl (k := 16) rfl (by rw [← ev97]; rfl) (by decide) rfl (fun ls hl => ?_)
                                refine lv_goto (tgt := 144) S.1 S.2.1 dL_same_410 (by decide) ?_
                                exact ih _ _ _ _ _ _ hR hS _ (lv_sub hl [4, 5, 6, 7, 8, 9, 1, 10, 11, 12, 13, 14, 15, 16, 2, 0] rfl) hF
                              · replace hF := z_cf hF hc96
                                refine lv_iconst (v := 0) S.1 S.2.1 dL_same_405 (by decide) ?_
                                exact z_zretc S hr hlk hR hS (by decide) hF dL_same_406
                            · replace hF := z_cf hF hc95
                              refine lv_iconst (v := 2) S.1 S.2.1 dL_same_396 (by decide) ?_
                              refine lv_goto (tgt := 401) S.1 S.2.1 dL_same_397 (by decide) ?_
                              refine lv_imul S.1 S.2.1 dL_same_401 ?_
                              refine lv_icmp_eq (tgt := 407) S.1 S.2.1 dL_same_402 (by decide) (fun hc98 => ?_) (fun hc98 => ?_)
                              · replace hF := z_ct hF hc98
                                obtain ⟨v99, ev99, hF⟩ := zL_out hF
                                refine lv_iinc (v := v99) (lv' := [(15, .int v99), (6, .int v69), (14, .int v67), (16, .int r65), (0, .ref (g.1 0 0)), (1, .ref (g.1 26 0)), (2, .ref (g.1 27 0)), (3, .ref (g.1 28 0)), (4, .ref (g.1 29 0)), (5, .int a5), (7, .int a7), (8, .int a8), (9, .int a9), (10, .int a10), (11, .int a11), (12, .int a12), (13, .int a13)]) S.1 S.2.1 dL_same_407 hl (k := 16) rfl (by rw [← ev99]; rfl) (by decide) rfl (fun ls hl => ?_)
                                refine lv_goto (tgt := 144) S.1 S.2.1 dL_same_410 (by decide) ?_
                                exact ih _ _ _ _ _ _ hR hS _ (lv_sub hl [4, 5, 6, 7, 8, 9, 1, 10, 11, 12, 13, 14, 15, 16, 2, 0] rfl) hF
                              · replace hF := z_cf hF hc98
                                refine lv_iconst (v := 0) S.1 S.2.1 dL_same_405 (by decide) ?_
                                exact z_zretc S hr hlk hR hS (by decide) hF dL_same_406
            · replace hF := z_cf hF hc68
              refine lv_iconst (v := 1) S.1 S.2.1 dL_same_204 (by decide) ?_
              refine lv_goto (tgt := 209) S.1 S.2.1 dL_same_205 (by decide) ?_
              refine lv_iadd S.1 S.2.1 dL_same_209 ?_
              refine z_nm hF (fun v100 hF => ?_)
              refine lv_istore (lv' := [(6, .int v100), (14, .int v67), (16, .int r65), (0, .ref (g.1 0 0)), (1, .ref (g.1 26 0)), (2, .ref (g.1 27 0)), (3, .ref (g.1 28 0)), (4, .ref (g.1 29 0)), (5, .int a5), (7, .int a7), (8, .int a8), (9, .int a9), (10, .int a10), (11, .int a11), (12, .int a12), (13, .int a13), (15, .int a15)]) S.1 S.2.1 dL_same_210 hl (by decide) rfl (fun ls hl => ?_)
              refine lv_iload S.1 S.2.1 dL_same_212 (lv_at hl 13 rfl) ?_
              refine lv_if_eq (tgt := 407) S.1 S.2.1 dL_same_214 (by decide) (fun hc101 => ?_) (fun hc101 => ?_)
              · replace hF := z_ct hF hc101
                obtain ⟨v102, ev102, hF⟩ := zL_out hF
                refine lv_iinc (v := v102) (lv' := [(15, .int v102), (6, .int v100), (14, .int v67), (16, .int r65), (0, .ref (g.1 0 0)), (1, .ref (g.1 26 0)), (2, .ref (g.1 27 0)), (3, .ref (g.1 28 0)), (4, .ref (g.1 29 0)), (5, .int a5), (7, .int a7), (8, .int a8), (9, .int a9), (10, .int a10), (11, .int a11), (12, .int a12), (13, .int a13)]) S.1 S.2.1 dL_same_407 hl (k := 16) rfl (by rw [← ev102]; rfl) (by decide) rfl (fun ls hl => ?_)
                refine lv_goto (tgt := 144) S.1 S.2.1 dL_same_410 (by decide) ?_
                exact ih _ _ _ _ _ _ hR hS _ (lv_sub hl [4, 5, 6, 7, 8, 9, 1, 10, 11, 12, 13, 14, 15, 16, 2, 0] rfl) hF
              · replace hF := z_cf hF hc101
                refine lv_aload_n S.1 S.2.1 dL_same_217 rfl (lv_at hl 5 rfl) ?_
                refine lv_bipush (v := 12) S.1 S.2.1 dL_same_218 (by decide) ?_
                refine lv_iload S.1 S.2.1 dL_same_220 (lv_at hl 16 rfl) ?_
                refine lv_imul S.1 S.2.1 dL_same_222 ?_
                refine lv_bipush (v := 8) S.1 S.2.1 dL_same_223 (by decide) ?_
                refine lv_iadd S.1 S.2.1 dL_same_225 ?_
                refine z_iald (k := 27) (i := 0) (n := 48) S hK hR hF (by decide) rfl dL_same_226 (fun hF => ?_)
                refine lv_if_ne (tgt := 407) S.1 S.2.1 dL_same_227 (by decide) (fun hc103 => ?_) (fun hc103 => ?_)
                · replace hF := z_cf hF hc103
                  obtain ⟨v104, ev104, hF⟩ := zL_out hF
                  refine lv_iinc (v := v104) (lv' := [(15, .int v104), (6, .int v100), (14, .int v67), (16, .int r65), (0, .ref (g.1 0 0)), (1, .ref (g.1 26 0)), (2, .ref (g.1 27 0)), (3, .ref (g.1 28 0)), (4, .ref (g.1 29 0)), (5, .int a5), (7, .int a7), (8, .int a8), (9, .int a9), (10, .int a10), (11, .int a11), (12, .int a12), (13, .int a13)]) S.1 S.2.1 dL_same_407 hl (k := 16) rfl (by rw [← ev104]; rfl) (by decide) rfl (fun ls hl => ?_)
                  refine lv_goto (tgt := 144) S.1 S.2.1 dL_same_410 (by decide) ?_
                  exact ih _ _ _ _ _ _ hR hS _ (lv_sub hl [4, 5, 6, 7, 8, 9, 1, 10, 11, 12, 13, 14, 15, 16, 2, 0] rfl) hF
                · replace hF := z_ct hF hc103
                  refine lv_aload_n S.1 S.2.1 dL_same_230 rfl (lv_at hl 3 rfl) ?_
                  refine lv_iload S.1 S.2.1 dL_same_231 (lv_at hl 11 rfl) ?_
                  refine lv_iload S.1 S.2.1 dL_same_233 (lv_at hl 16 rfl) ?_
                  refine lv_iconst (v := 0) S.1 S.2.1 dL_same_235 (by decide) ?_
                  refine z_goi hS hF (fun _ _ ho => va_runV (C := RX6) (n := 3) (As := [.int a9, .int a15, .int 0]) (rest := []) S (kX6_crossing l hg ho) (cwV 3 S.2.2.2.2 (zgV wm_L_36 oX6_crossing) rfl rfl rfl hX6_crossing ⟨Nat.le_of_ble_eq_true rfl, Nat.le_of_ble_eq_true rfl⟩) ⟨zPc_blind, z_recv hK hR (by decide) rfl rfl, z_pre hK hR⟩ rfl rfl hl.1 rfl (lv_room (Nat.le_of_ble_eq_true rfl)) dL_same_236 ⟨Nat.zero_le _, Nat.zero_le _⟩) (fun r106 M105 H locs hR hS hF => ?_)
                  refine lv_iload S.1 S.2.1 dL_same_239 (lv_at hl 2 rfl) ?_
                  refine lv_if_ge (tgt := 248) S.1 S.2.1 dL_same_241 (by decide) (fun _ => ?_) (fun hc => absurd hc66 hc)
                  refine lv_iconst (v := 1) S.1 S.2.1 dL_same_248 (by decide) ?_
                  refine lv_icmp_ne (tgt := 405) S.1 S.2.1 dL_same_249 (by decide) (fun hc107 => ?_) (fun hc107 => ?_)
                  · replace hF := z_cf hF hc107
                    refine lv_iconst (v := 0) S.1 S.2.1 dL_same_405 (by decide) ?_
                    exact z_zretc S hr hlk hR hS (by decide) hF dL_same_406
                  · replace hF := z_ct hF hc107
                    refine lv_aload_n S.1 S.2.1 dL_same_252 rfl (lv_at hl 3 rfl) ?_
                    refine lv_iload S.1 S.2.1 dL_same_253 (lv_at hl 11 rfl) ?_
                    refine lv_iload S.1 S.2.1 dL_same_255 (lv_at hl 16 rfl) ?_
                    refine lv_iconst (v := 1) S.1 S.2.1 dL_same_257 (by decide) ?_
                    refine z_goi hS hF (fun _ _ ho => va_runV (C := RX6) (n := 3) (As := [.int a9, .int a15, .int 1]) (rest := []) S (kX6_crossing l hg ho) (cwV 3 S.2.2.2.2 (zgV wm_L_36 oX6_crossing) rfl rfl rfl hX6_crossing ⟨Nat.le_of_ble_eq_true rfl, Nat.le_of_ble_eq_true rfl⟩) ⟨zPc_blind, z_recv hK hR (by decide) rfl rfl, z_pre hK hR⟩ rfl rfl hl.1 rfl (lv_room (Nat.le_of_ble_eq_true rfl)) dL_same_258 ⟨Nat.zero_le _, Nat.zero_le _⟩) (fun r109 M108 H locs hR hS hF => ?_)
                    refine lv_iload S.1 S.2.1 dL_same_261 (lv_at hl 2 rfl) ?_
                    refine lv_if_ge (tgt := 271) S.1 S.2.1 dL_same_263 (by decide) (fun _ => ?_) (fun hc => absurd hc66 hc)
                    refine lv_iload S.1 S.2.1 dL_same_271 (lv_at hl 2 rfl) ?_
                    refine lv_bipush (v := 64) S.1 S.2.1 dL_same_273 (by decide) ?_
                    refine z_irem S.1 S.2.1 dL_same_275 (by decide) ?_
                    refine lv_icmp_ne (tgt := 405) S.1 S.2.1 dL_same_276 (by decide) (fun hc110 => ?_) (fun hc110 => ?_)
                    · replace hF := z_cf hF hc110
                      refine lv_iconst (v := 0) S.1 S.2.1 dL_same_405 (by decide) ?_
                      exact z_zretc S hr hlk hR hS (by decide) hF dL_same_406
                    · replace hF := z_ct hF hc110
                      refine lv_aload_n S.1 S.2.1 dL_same_279 rfl (lv_at hl 3 rfl) ?_
                      refine lv_iload S.1 S.2.1 dL_same_280 (lv_at hl 16 rfl) ?_
                      refine lv_iload S.1 S.2.1 dL_same_282 (lv_at hl 11 rfl) ?_
                      refine lv_iconst (v := 2) S.1 S.2.1 dL_same_284 (by decide) ?_
                      refine z_goi hS hF (fun _ _ ho => va_runV (C := RX6) (n := 3) (As := [.int a15, .int a9, .int 2]) (rest := []) S (kX6_crossing l hg ho) (cwV 3 S.2.2.2.2 (zgV wm_L_36 oX6_crossing) rfl rfl rfl hX6_crossing ⟨Nat.le_of_ble_eq_true rfl, Nat.le_of_ble_eq_true rfl⟩) ⟨zPc_blind, z_recv hK hR (by decide) rfl rfl, z_pre hK hR⟩ rfl rfl hl.1 rfl (lv_room (Nat.le_of_ble_eq_true rfl)) dL_same_285 ⟨Nat.zero_le _, Nat.zero_le _⟩) (fun r112 M111 H locs hR hS hF => ?_)
                      refine lv_iload S.1 S.2.1 dL_same_288 (lv_at hl 2 rfl) ?_
                      refine lv_if_ge (tgt := 298) S.1 S.2.1 dL_same_290 (by decide) (fun _ => ?_) (fun hc => absurd hc66 hc)
                      refine lv_iload S.1 S.2.1 dL_same_298 (lv_at hl 2 rfl) ?_
                      refine lv_bipush (v := 64) S.1 S.2.1 dL_same_300 (by decide) ?_
                      refine z_irem S.1 S.2.1 dL_same_302 (by decide) ?_
                      refine lv_icmp_ne (tgt := 405) S.1 S.2.1 dL_same_303 (by decide) (fun hc113 => ?_) (fun hc113 => ?_)
                      · replace hF := z_cf hF hc113
                        refine lv_iconst (v := 0) S.1 S.2.1 dL_same_405 (by decide) ?_
                        exact z_zretc S hr hlk hR hS (by decide) hF dL_same_406
                      · replace hF := z_ct hF hc113
                        refine lv_aload_n S.1 S.2.1 dL_same_306 rfl (lv_at hl 3 rfl) ?_
                        refine lv_iload S.1 S.2.1 dL_same_307 (lv_at hl 11 rfl) ?_
                        refine lv_iload S.1 S.2.1 dL_same_309 (lv_at hl 16 rfl) ?_
                        refine lv_iconst (v := 3) S.1 S.2.1 dL_same_311 (by decide) ?_
                        refine z_goi hS hF (fun _ _ ho => va_runV (C := RX6) (n := 3) (As := [.int a9, .int a15, .int 3]) (rest := []) S (kX6_crossing l hg ho) (cwV 3 S.2.2.2.2 (zgV wm_L_36 oX6_crossing) rfl rfl rfl hX6_crossing ⟨Nat.le_of_ble_eq_true rfl, Nat.le_of_ble_eq_true rfl⟩) ⟨zPc_blind, z_recv hK hR (by decide) rfl rfl, z_pre hK hR⟩ rfl rfl hl.1 rfl (lv_room (Nat.le_of_ble_eq_true rfl)) dL_same_312 ⟨Nat.zero_le _, Nat.zero_le _⟩) (fun r115 M114 H locs hR hS hF => ?_)
                        refine lv_iload S.1 S.2.1 dL_same_315 (lv_at hl 2 rfl) ?_
                        refine lv_if_ge (tgt := 325) S.1 S.2.1 dL_same_317 (by decide) (fun _ => ?_) (fun hc => absurd hc66 hc)
                        refine lv_iload S.1 S.2.1 dL_same_325 (lv_at hl 2 rfl) ?_
                        refine lv_bipush (v := 64) S.1 S.2.1 dL_same_327 (by decide) ?_
                        refine lv_idiv S.1 S.2.1 dL_same_329 (by decide) ?_
                        refine lv_icmp_ne (tgt := 405) S.1 S.2.1 dL_same_330 (by decide) (fun hc116 => ?_) (fun hc116 => ?_)
                        · replace hF := z_cf hF hc116
                          refine lv_iconst (v := 0) S.1 S.2.1 dL_same_405 (by decide) ?_
                          exact z_zretc S hr hlk hR hS (by decide) hF dL_same_406
                        · replace hF := z_ct hF hc116
                          refine lv_aload_n S.1 S.2.1 dL_same_333 rfl (lv_at hl 3 rfl) ?_
                          refine lv_iload S.1 S.2.1 dL_same_334 (lv_at hl 11 rfl) ?_
                          refine lv_iload S.1 S.2.1 dL_same_336 (lv_at hl 16 rfl) ?_
                          refine lv_iconst (v := 4) S.1 S.2.1 dL_same_338 (by decide) ?_
                          refine z_goi hS hF (fun _ _ ho => va_runV (C := RX6) (n := 3) (As := [.int a9, .int a15, .int 4]) (rest := []) S (kX6_crossing l hg ho) (cwV 3 S.2.2.2.2 (zgV wm_L_36 oX6_crossing) rfl rfl rfl hX6_crossing ⟨Nat.le_of_ble_eq_true rfl, Nat.le_of_ble_eq_true rfl⟩) ⟨zPc_blind, z_recv hK hR (by decide) rfl rfl, z_pre hK hR⟩ rfl rfl hl.1 rfl (lv_room (Nat.le_of_ble_eq_true rfl)) dL_same_339 ⟨Nat.zero_le _, Nat.zero_le _⟩) (fun r118 M117 H locs hR hS hF => ?_)
                          refine lv_iload S.1 S.2.1 dL_same_342 (lv_at hl 11 rfl) ?_
                          refine lv_iload S.1 S.2.1 dL_same_344 (lv_at hl 16 rfl) ?_
                          refine lv_aload_n S.1 S.2.1 dL_same_346 rfl (lv_at hl 5 rfl) ?_
                          refine z_goi hS hF (fun _ _ ho => va_runS (n := 3) (As := [.int a9, .int a15, .ref (g.1 27 0)]) (rest := [.int r118]) S (kL_sliding l hg (by decide) rfl ho) (va_cwS 3 S.2.2.2.2 (zgS wm_L_20 oL_sliding) rfl rfl rfl hL_sliding.2 ⟨Nat.le_of_ble_eq_true rfl, Nat.le_of_ble_eq_true rfl⟩) ⟨zPc_blind, z_pre hK hR⟩ rfl rfl hl.1 rfl (lv_room (Nat.le_of_ble_eq_true rfl)) dL_same_347 ⟨Nat.zero_le _, Nat.zero_le _⟩) (fun r120 M119 H locs hR hS hF => ?_)
                          refine lv_icmp_ne (tgt := 405) S.1 S.2.1 dL_same_350 (by decide) (fun hc121 => ?_) (fun hc121 => ?_)
                          · replace hF := z_cf hF hc121
                            refine lv_iconst (v := 0) S.1 S.2.1 dL_same_405 (by decide) ?_
                            exact z_zretc S hr hlk hR hS (by decide) hF dL_same_406
                          · replace hF := z_ct hF hc121
                            refine lv_aload_n S.1 S.2.1 dL_same_353 rfl (lv_at hl 3 rfl) ?_
                            refine lv_iload S.1 S.2.1 dL_same_354 (lv_at hl 11 rfl) ?_
                            refine lv_iload S.1 S.2.1 dL_same_356 (lv_at hl 16 rfl) ?_
                            refine lv_iconst (v := 5) S.1 S.2.1 dL_same_358 (by decide) ?_
                            refine z_goi hS hF (fun _ _ ho => va_runV (C := RX6) (n := 3) (As := [.int a9, .int a15, .int 5]) (rest := []) S (kX6_crossing l hg ho) (cwV 3 S.2.2.2.2 (zgV wm_L_36 oX6_crossing) rfl rfl rfl hX6_crossing ⟨Nat.le_of_ble_eq_true rfl, Nat.le_of_ble_eq_true rfl⟩) ⟨zPc_blind, z_recv hK hR (by decide) rfl rfl, z_pre hK hR⟩ rfl rfl hl.1 rfl (lv_room (Nat.le_of_ble_eq_true rfl)) dL_same_359 ⟨Nat.zero_le _, Nat.zero_le _⟩) (fun r123 M122 H locs hR hS hF => ?_)
                            refine lv_iload S.1 S.2.1 dL_same_362 (lv_at hl 2 rfl) ?_
                            refine lv_if_ge (tgt := 371) S.1 S.2.1 dL_same_364 (by decide) (fun _ => ?_) (fun hc => absurd hc66 hc)
                            refine lv_aload_n S.1 S.2.1 dL_same_371 rfl (lv_at hl 5 rfl) ?_
                            refine lv_bipush (v := 12) S.1 S.2.1 dL_same_372 (by decide) ?_
                            refine lv_iload S.1 S.2.1 dL_same_374 (lv_at hl 16 rfl) ?_
                            refine lv_imul S.1 S.2.1 dL_same_376 ?_
                            refine lv_iconst (v := 5) S.1 S.2.1 dL_same_377 (by decide) ?_
                            refine lv_iadd S.1 S.2.1 dL_same_378 ?_
                            refine z_iald (k := 27) (i := 0) (n := 48) S hK hR hF (by decide) rfl dL_same_379 (fun hF => ?_)
                            refine lv_iload S.1 S.2.1 dL_same_380 (lv_at hl 11 rfl) ?_
                            refine lv_iload S.1 S.2.1 dL_same_382 (lv_at hl 16 rfl) ?_
                            refine lv_aload_n S.1 S.2.1 dL_same_384 rfl (lv_at hl 5 rfl) ?_
                            refine z_goi hS hF (fun _ _ ho => va_runS (n := 3) (As := [.int a9, .int a15, .ref (g.1 27 0)]) (rest := [.int (M122 27 0 (zN ((12 * a15) + 5))), .int r123]) S (kL_sliding l hg (by decide) rfl ho) (va_cwS 3 S.2.2.2.2 (zgS wm_L_20 oL_sliding) rfl rfl rfl hL_sliding.2 ⟨Nat.le_of_ble_eq_true rfl, Nat.le_of_ble_eq_true rfl⟩) ⟨zPc_blind, z_pre hK hR⟩ rfl rfl hl.1 rfl (lv_room (Nat.le_of_ble_eq_true rfl)) dL_same_385 ⟨Nat.zero_le _, Nat.zero_le _⟩) (fun r125 M124 H locs hR hS hF => ?_)
                            refine lv_imul S.1 S.2.1 dL_same_388 ?_
                            refine lv_iload S.1 S.2.1 dL_same_389 (lv_at hl 2 rfl) ?_
                            refine lv_bipush (v := 63) S.1 S.2.1 dL_same_391 (by decide) ?_
                            refine lv_icmp_le (tgt := 400) S.1 S.2.1 dL_same_393 (by decide) (fun hc126 => ?_) (fun hc126 => ?_)
                            · replace hF := z_ct hF hc126
                              refine lv_iconst (v := 1) S.1 S.2.1 dL_same_400 (by decide) ?_
                              refine lv_imul S.1 S.2.1 dL_same_401 ?_
                              refine lv_icmp_eq (tgt := 407) S.1 S.2.1 dL_same_402 (by decide) (fun hc127 => ?_) (fun hc127 => ?_)
                              · replace hF := z_ct hF hc127
                                obtain ⟨v128, ev128, hF⟩ := zL_out hF
                                refine lv_iinc (v := v128) (lv' := [(15, .int v128), (6, .int v100), (14, .int v67), (16, .int r65), (0, .ref (g.1 0 0)), (1, .ref (g.1 26 0)), (2, .ref (g.1 27 0)), (3, .ref (g.1 28 0)), (4, .ref (g.1 29 0)), (5, .int a5), (7, .int a7), (8, .int a8), (9, .int a9), (10, .int a10), (11, .int a11), (12, .int a12), (13, .int a13)]) S.1 S.2.1 dL_same_407 hl (k := 16) rfl (by rw [← ev128]; rfl) (by decide) rfl (fun ls hl => ?_)
                                refine lv_goto (tgt := 144) S.1 S.2.1 dL_same_410 (by decide) ?_
                                exact ih _ _ _ _ _ _ hR hS _ (lv_sub hl [4, 5, 6, 7, 8, 9, 1, 10, 11, 12, 13, 14, 15, 16, 2, 0] rfl) hF
                              · replace hF := z_cf hF hc127
                                refine lv_iconst (v := 0) S.1 S.2.1 dL_same_405 (by decide) ?_
                                exact z_zretc S hr hlk hR hS (by decide) hF dL_same_406
                            · replace hF := z_cf hF hc126
                              refine lv_iconst (v := 2) S.1 S.2.1 dL_same_396 (by decide) ?_
                              refine lv_goto (tgt := 401) S.1 S.2.1 dL_same_397 (by decide) ?_
                              refine lv_imul S.1 S.2.1 dL_same_401 ?_
                              refine lv_icmp_eq (tgt := 407) S.1 S.2.1 dL_same_402 (by decide) (fun hc129 => ?_) (fun hc129 => ?_)
                              · replace hF := z_ct hF hc129
                                obtain ⟨v130, ev130, hF⟩ := zL_out hF
                                refine lv_iinc (v := v130) (lv' := [(15, .int v130), (6, .int v100), (14, .int v67), (16, .int r65), (0, .ref (g.1 0 0)), (1, .ref (g.1 26 0)), (2, .ref (g.1 27 0)), (3, .ref (g.1 28 0)), (4, .ref (g.1 29 0)), (5, .int a5), (7, .int a7), (8, .int a8), (9, .int a9), (10, .int a10), (11, .int a11), (12, .int a12), (13, .int a13)]) S.1 S.2.1 dL_same_407 hl (k := 16) rfl (by rw [← ev130]; rfl) (by decide) rfl (fun ls hl => ?_)
                                refine lv_goto (tgt := 144) S.1 S.2.1 dL_same_410 (by decide) ?_
                                exact ih _ _ _ _ _ _ hR hS _ (lv_sub hl [4, 5, 6, 7, 8, 9, 1, 10, 11, 12, 13, 14, 15, 16, 2, 0] rfl) hF
                              · replace hF := z_cf hF hc129
                                refine lv_iconst (v := 0) S.1 S.2.1 dL_same_405 (by decide) ?_
                                exact z_zretc S hr hlk hR hS (by decide) hF dL_same_406
          · replace hF := z_cf hF hc66
            refine lv_iconst (v := 0) S.1 S.2.1 dL_same_179 (by decide) ?_
            refine lv_goto (tgt := 187) S.1 S.2.1 dL_same_180 (by decide) ?_
            refine lv_ior S.1 S.2.1 dL_same_187 ?_
            refine z_nm hF (fun v131 hF => ?_)
            refine lv_istore (lv' := [(14, .int v131), (16, .int r65), (0, .ref (g.1 0 0)), (1, .ref (g.1 26 0)), (2, .ref (g.1 27 0)), (3, .ref (g.1 28 0)), (4, .ref (g.1 29 0)), (5, .int a5), (6, .int a6), (7, .int a7), (8, .int a8), (9, .int a9), (10, .int a10), (11, .int a11), (12, .int a12), (13, .int a13), (15, .int a15)]) S.1 S.2.1 dL_same_188 hl (by decide) rfl (fun ls hl => ?_)
            refine lv_iload S.1 S.2.1 dL_same_190 (lv_at hl 8 rfl) ?_
            refine lv_iload S.1 S.2.1 dL_same_192 (lv_at hl 1 rfl) ?_
            refine lv_if_lt (tgt := 208) S.1 S.2.1 dL_same_194 (by decide) (fun _ => ?_) (fun hc => absurd (Int32.not_le.mp hc66) hc)
            refine lv_iconst (v := 0) S.1 S.2.1 dL_same_208 (by decide) ?_
            refine lv_iadd S.1 S.2.1 dL_same_209 ?_
            refine z_nm hF (fun v132 hF => ?_)
            refine lv_istore (lv' := [(6, .int v132), (14, .int v131), (16, .int r65), (0, .ref (g.1 0 0)), (1, .ref (g.1 26 0)), (2, .ref (g.1 27 0)), (3, .ref (g.1 28 0)), (4, .ref (g.1 29 0)), (5, .int a5), (7, .int a7), (8, .int a8), (9, .int a9), (10, .int a10), (11, .int a11), (12, .int a12), (13, .int a13), (15, .int a15)]) S.1 S.2.1 dL_same_210 hl (by decide) rfl (fun ls hl => ?_)
            refine lv_iload S.1 S.2.1 dL_same_212 (lv_at hl 13 rfl) ?_
            refine lv_if_eq (tgt := 407) S.1 S.2.1 dL_same_214 (by decide) (fun hc133 => ?_) (fun hc133 => ?_)
            · replace hF := z_ct hF hc133
              obtain ⟨v134, ev134, hF⟩ := zL_out hF
              refine lv_iinc (v := v134) (lv' := [(15, .int v134), (6, .int v132), (14, .int v131), (16, .int r65), (0, .ref (g.1 0 0)), (1, .ref (g.1 26 0)), (2, .ref (g.1 27 0)), (3, .ref (g.1 28 0)), (4, .ref (g.1 29 0)), (5, .int a5), (7, .int a7), (8, .int a8), (9, .int a9), (10, .int a10), (11, .int a11), (12, .int a12), (13, .int a13)]) S.1 S.2.1 dL_same_407 hl (k := 16) rfl (by rw [← ev134]; rfl) (by decide) rfl (fun ls hl => ?_)
              refine lv_goto (tgt := 144) S.1 S.2.1 dL_same_410 (by decide) ?_
              exact ih _ _ _ _ _ _ hR hS _ (lv_sub hl [4, 5, 6, 7, 8, 9, 1, 10, 11, 12, 13, 14, 15, 16, 2, 0] rfl) hF
            · replace hF := z_cf hF hc133
              refine lv_aload_n S.1 S.2.1 dL_same_217 rfl (lv_at hl 5 rfl) ?_
              refine lv_bipush (v := 12) S.1 S.2.1 dL_same_218 (by decide) ?_
              refine lv_iload S.1 S.2.1 dL_same_220 (lv_at hl 16 rfl) ?_
              refine lv_imul S.1 S.2.1 dL_same_222 ?_
              refine lv_bipush (v := 8) S.1 S.2.1 dL_same_223 (by decide) ?_
              refine lv_iadd S.1 S.2.1 dL_same_225 ?_
              refine z_iald (k := 27) (i := 0) (n := 48) S hK hR hF (by decide) rfl dL_same_226 (fun hF => ?_)
              refine lv_if_ne (tgt := 407) S.1 S.2.1 dL_same_227 (by decide) (fun hc135 => ?_) (fun hc135 => ?_)
              · replace hF := z_cf hF hc135
                obtain ⟨v136, ev136, hF⟩ := zL_out hF
                refine lv_iinc (v := v136) (lv' := [(15, .int v136), (6, .int v132), (14, .int v131), (16, .int r65), (0, .ref (g.1 0 0)), (1, .ref (g.1 26 0)), (2, .ref (g.1 27 0)), (3, .ref (g.1 28 0)), (4, .ref (g.1 29 0)), (5, .int a5), (7, .int a7), (8, .int a8), (9, .int a9), (10, .int a10), (11, .int a11), (12, .int a12), (13, .int a13)]) S.1 S.2.1 dL_same_407 hl (k := 16) rfl (by rw [← ev136]; rfl) (by decide) rfl (fun ls hl => ?_)
                refine lv_goto (tgt := 144) S.1 S.2.1 dL_same_410 (by decide) ?_
                exact ih _ _ _ _ _ _ hR hS _ (lv_sub hl [4, 5, 6, 7, 8, 9, 1, 10, 11, 12, 13, 14, 15, 16, 2, 0] rfl) hF
              · replace hF := z_ct hF hc135
                refine lv_aload_n S.1 S.2.1 dL_same_230 rfl (lv_at hl 3 rfl) ?_
                refine lv_iload S.1 S.2.1 dL_same_231 (lv_at hl 11 rfl) ?_
                refine lv_iload S.1 S.2.1 dL_same_233 (lv_at hl 16 rfl) ?_
                refine lv_iconst (v := 0) S.1 S.2.1 dL_same_235 (by decide) ?_
                refine z_goi hS hF (fun _ _ ho => va_runV (C := RX6) (n := 3) (As := [.int a9, .int a15, .int 0]) (rest := []) S (kX6_crossing l hg ho) (cwV 3 S.2.2.2.2 (zgV wm_L_36 oX6_crossing) rfl rfl rfl hX6_crossing ⟨Nat.le_of_ble_eq_true rfl, Nat.le_of_ble_eq_true rfl⟩) ⟨zPc_blind, z_recv hK hR (by decide) rfl rfl, z_pre hK hR⟩ rfl rfl hl.1 rfl (lv_room (Nat.le_of_ble_eq_true rfl)) dL_same_236 ⟨Nat.zero_le _, Nat.zero_le _⟩) (fun r138 M137 H locs hR hS hF => ?_)
                refine lv_iload S.1 S.2.1 dL_same_239 (lv_at hl 2 rfl) ?_
                refine lv_if_ge (tgt := 248) S.1 S.2.1 dL_same_241 (by decide) (fun hc => absurd hc (Int32.not_le.mpr (Int32.not_le.mp hc66))) (fun _ => ?_)
                refine lv_iconst (v := 0) S.1 S.2.1 dL_same_244 (by decide) ?_
                refine lv_goto (tgt := 249) S.1 S.2.1 dL_same_245 (by decide) ?_
                refine lv_icmp_ne (tgt := 405) S.1 S.2.1 dL_same_249 (by decide) (fun hc139 => ?_) (fun hc139 => ?_)
                · replace hF := z_cf hF hc139
                  refine lv_iconst (v := 0) S.1 S.2.1 dL_same_405 (by decide) ?_
                  exact z_zretc S hr hlk hR hS (by decide) hF dL_same_406
                · replace hF := z_ct hF hc139
                  refine lv_aload_n S.1 S.2.1 dL_same_252 rfl (lv_at hl 3 rfl) ?_
                  refine lv_iload S.1 S.2.1 dL_same_253 (lv_at hl 11 rfl) ?_
                  refine lv_iload S.1 S.2.1 dL_same_255 (lv_at hl 16 rfl) ?_
                  refine lv_iconst (v := 1) S.1 S.2.1 dL_same_257 (by decide) ?_
                  refine z_goi hS hF (fun _ _ ho => va_runV (C := RX6) (n := 3) (As := [.int a9, .int a15, .int 1]) (rest := []) S (kX6_crossing l hg ho) (cwV 3 S.2.2.2.2 (zgV wm_L_36 oX6_crossing) rfl rfl rfl hX6_crossing ⟨Nat.le_of_ble_eq_true rfl, Nat.le_of_ble_eq_true rfl⟩) ⟨zPc_blind, z_recv hK hR (by decide) rfl rfl, z_pre hK hR⟩ rfl rfl hl.1 rfl (lv_room (Nat.le_of_ble_eq_true rfl)) dL_same_258 ⟨Nat.zero_le _, Nat.zero_le _⟩) (fun r141 M140 H locs hR hS hF => ?_)
                  refine lv_iload S.1 S.2.1 dL_same_261 (lv_at hl 2 rfl) ?_
                  refine lv_if_ge (tgt := 271) S.1 S.2.1 dL_same_263 (by decide) (fun hc => absurd hc (Int32.not_le.mpr (Int32.not_le.mp hc66))) (fun _ => ?_)
                  refine lv_bipush (v := (-6)) S.1 S.2.1 dL_same_266 (by decide) ?_
                  refine lv_goto (tgt := 276) S.1 S.2.1 dL_same_268 (by decide) ?_
                  refine lv_icmp_ne (tgt := 405) S.1 S.2.1 dL_same_276 (by decide) (fun hc142 => ?_) (fun hc142 => ?_)
                  · replace hF := z_cf hF hc142
                    refine lv_iconst (v := 0) S.1 S.2.1 dL_same_405 (by decide) ?_
                    exact z_zretc S hr hlk hR hS (by decide) hF dL_same_406
                  · replace hF := z_ct hF hc142
                    refine lv_aload_n S.1 S.2.1 dL_same_279 rfl (lv_at hl 3 rfl) ?_
                    refine lv_iload S.1 S.2.1 dL_same_280 (lv_at hl 16 rfl) ?_
                    refine lv_iload S.1 S.2.1 dL_same_282 (lv_at hl 11 rfl) ?_
                    refine lv_iconst (v := 2) S.1 S.2.1 dL_same_284 (by decide) ?_
                    refine z_goi hS hF (fun _ _ ho => va_runV (C := RX6) (n := 3) (As := [.int a15, .int a9, .int 2]) (rest := []) S (kX6_crossing l hg ho) (cwV 3 S.2.2.2.2 (zgV wm_L_36 oX6_crossing) rfl rfl rfl hX6_crossing ⟨Nat.le_of_ble_eq_true rfl, Nat.le_of_ble_eq_true rfl⟩) ⟨zPc_blind, z_recv hK hR (by decide) rfl rfl, z_pre hK hR⟩ rfl rfl hl.1 rfl (lv_room (Nat.le_of_ble_eq_true rfl)) dL_same_285 ⟨Nat.zero_le _, Nat.zero_le _⟩) (fun r144 M143 H locs hR hS hF => ?_)
                    refine lv_iload S.1 S.2.1 dL_same_288 (lv_at hl 2 rfl) ?_
                    refine lv_if_ge (tgt := 298) S.1 S.2.1 dL_same_290 (by decide) (fun hc => absurd hc (Int32.not_le.mpr (Int32.not_le.mp hc66))) (fun _ => ?_)
                    refine lv_bipush (v := (-6)) S.1 S.2.1 dL_same_293 (by decide) ?_
                    refine lv_goto (tgt := 303) S.1 S.2.1 dL_same_295 (by decide) ?_
                    refine lv_icmp_ne (tgt := 405) S.1 S.2.1 dL_same_303 (by decide) (fun hc145 => ?_) (fun hc145 => ?_)
                    · replace hF := z_cf hF hc145
                      refine lv_iconst (v := 0) S.1 S.2.1 dL_same_405 (by decide) ?_
                      exact z_zretc S hr hlk hR hS (by decide) hF dL_same_406
                    · replace hF := z_ct hF hc145
                      refine lv_aload_n S.1 S.2.1 dL_same_306 rfl (lv_at hl 3 rfl) ?_
                      refine lv_iload S.1 S.2.1 dL_same_307 (lv_at hl 11 rfl) ?_
                      refine lv_iload S.1 S.2.1 dL_same_309 (lv_at hl 16 rfl) ?_
                      refine lv_iconst (v := 3) S.1 S.2.1 dL_same_311 (by decide) ?_
                      refine z_goi hS hF (fun _ _ ho => va_runV (C := RX6) (n := 3) (As := [.int a9, .int a15, .int 3]) (rest := []) S (kX6_crossing l hg ho) (cwV 3 S.2.2.2.2 (zgV wm_L_36 oX6_crossing) rfl rfl rfl hX6_crossing ⟨Nat.le_of_ble_eq_true rfl, Nat.le_of_ble_eq_true rfl⟩) ⟨zPc_blind, z_recv hK hR (by decide) rfl rfl, z_pre hK hR⟩ rfl rfl hl.1 rfl (lv_room (Nat.le_of_ble_eq_true rfl)) dL_same_312 ⟨Nat.zero_le _, Nat.zero_le _⟩) (fun r147 M146 H locs hR hS hF => ?_)
                      refine lv_iload S.1 S.2.1 dL_same_315 (lv_at hl 2 rfl) ?_
                      refine lv_if_ge (tgt := 325) S.1 S.2.1 dL_same_317 (by decide) (fun hc => absurd hc (Int32.not_le.mpr (Int32.not_le.mp hc66))) (fun _ => ?_)
                      refine lv_bipush (v := (-6)) S.1 S.2.1 dL_same_320 (by decide) ?_
                      refine lv_goto (tgt := 330) S.1 S.2.1 dL_same_322 (by decide) ?_
                      refine lv_icmp_ne (tgt := 405) S.1 S.2.1 dL_same_330 (by decide) (fun hc148 => ?_) (fun hc148 => ?_)
                      · replace hF := z_cf hF hc148
                        refine lv_iconst (v := 0) S.1 S.2.1 dL_same_405 (by decide) ?_
                        exact z_zretc S hr hlk hR hS (by decide) hF dL_same_406
                      · replace hF := z_ct hF hc148
                        refine lv_aload_n S.1 S.2.1 dL_same_333 rfl (lv_at hl 3 rfl) ?_
                        refine lv_iload S.1 S.2.1 dL_same_334 (lv_at hl 11 rfl) ?_
                        refine lv_iload S.1 S.2.1 dL_same_336 (lv_at hl 16 rfl) ?_
                        refine lv_iconst (v := 4) S.1 S.2.1 dL_same_338 (by decide) ?_
                        refine z_goi hS hF (fun _ _ ho => va_runV (C := RX6) (n := 3) (As := [.int a9, .int a15, .int 4]) (rest := []) S (kX6_crossing l hg ho) (cwV 3 S.2.2.2.2 (zgV wm_L_36 oX6_crossing) rfl rfl rfl hX6_crossing ⟨Nat.le_of_ble_eq_true rfl, Nat.le_of_ble_eq_true rfl⟩) ⟨zPc_blind, z_recv hK hR (by decide) rfl rfl, z_pre hK hR⟩ rfl rfl hl.1 rfl (lv_room (Nat.le_of_ble_eq_true rfl)) dL_same_339 ⟨Nat.zero_le _, Nat.zero_le _⟩) (fun r150 M149 H locs hR hS hF => ?_)
                        refine lv_iload S.1 S.2.1 dL_same_342 (lv_at hl 11 rfl) ?_
                        refine lv_iload S.1 S.2.1 dL_same_344 (lv_at hl 16 rfl) ?_
                        refine lv_aload_n S.1 S.2.1 dL_same_346 rfl (lv_at hl 5 rfl) ?_
                        refine z_goi hS hF (fun _ _ ho => va_runS (n := 3) (As := [.int a9, .int a15, .ref (g.1 27 0)]) (rest := [.int r150]) S (kL_sliding l hg (by decide) rfl ho) (va_cwS 3 S.2.2.2.2 (zgS wm_L_20 oL_sliding) rfl rfl rfl hL_sliding.2 ⟨Nat.le_of_ble_eq_true rfl, Nat.le_of_ble_eq_true rfl⟩) ⟨zPc_blind, z_pre hK hR⟩ rfl rfl hl.1 rfl (lv_room (Nat.le_of_ble_eq_true rfl)) dL_same_347 ⟨Nat.zero_le _, Nat.zero_le _⟩) (fun r152 M151 H locs hR hS hF => ?_)
                        refine lv_icmp_ne (tgt := 405) S.1 S.2.1 dL_same_350 (by decide) (fun hc153 => ?_) (fun hc153 => ?_)
                        · replace hF := z_cf hF hc153
                          refine lv_iconst (v := 0) S.1 S.2.1 dL_same_405 (by decide) ?_
                          exact z_zretc S hr hlk hR hS (by decide) hF dL_same_406
                        · replace hF := z_ct hF hc153
                          refine lv_aload_n S.1 S.2.1 dL_same_353 rfl (lv_at hl 3 rfl) ?_
                          refine lv_iload S.1 S.2.1 dL_same_354 (lv_at hl 11 rfl) ?_
                          refine lv_iload S.1 S.2.1 dL_same_356 (lv_at hl 16 rfl) ?_
                          refine lv_iconst (v := 5) S.1 S.2.1 dL_same_358 (by decide) ?_
                          refine z_goi hS hF (fun _ _ ho => va_runV (C := RX6) (n := 3) (As := [.int a9, .int a15, .int 5]) (rest := []) S (kX6_crossing l hg ho) (cwV 3 S.2.2.2.2 (zgV wm_L_36 oX6_crossing) rfl rfl rfl hX6_crossing ⟨Nat.le_of_ble_eq_true rfl, Nat.le_of_ble_eq_true rfl⟩) ⟨zPc_blind, z_recv hK hR (by decide) rfl rfl, z_pre hK hR⟩ rfl rfl hl.1 rfl (lv_room (Nat.le_of_ble_eq_true rfl)) dL_same_359 ⟨Nat.zero_le _, Nat.zero_le _⟩) (fun r155 M154 H locs hR hS hF => ?_)
                          refine lv_iload S.1 S.2.1 dL_same_362 (lv_at hl 2 rfl) ?_
                          refine lv_if_ge (tgt := 371) S.1 S.2.1 dL_same_364 (by decide) (fun hc => absurd hc (Int32.not_le.mpr (Int32.not_le.mp hc66))) (fun _ => ?_)
                          refine lv_iconst (v := 0) S.1 S.2.1 dL_same_367 (by decide) ?_
                          refine lv_goto (tgt := 402) S.1 S.2.1 dL_same_368 (by decide) ?_
                          refine lv_icmp_eq (tgt := 407) S.1 S.2.1 dL_same_402 (by decide) (fun hc156 => ?_) (fun hc156 => ?_)
                          · replace hF := z_ct hF hc156
                            obtain ⟨v157, ev157, hF⟩ := zL_out hF
                            refine lv_iinc (v := v157) (lv' := [(15, .int v157), (6, .int v132), (14, .int v131), (16, .int r65), (0, .ref (g.1 0 0)), (1, .ref (g.1 26 0)), (2, .ref (g.1 27 0)), (3, .ref (g.1 28 0)), (4, .ref (g.1 29 0)), (5, .int a5), (7, .int a7), (8, .int a8), (9, .int a9), (10, .int a10), (11, .int a11), (12, .int a12), (13, .int a13)]) S.1 S.2.1 dL_same_407 hl (k := 16) rfl (by rw [← ev157]; rfl) (by decide) rfl (fun ls hl => ?_)
                            refine lv_goto (tgt := 144) S.1 S.2.1 dL_same_410 (by decide) ?_
                            exact ih _ _ _ _ _ _ hR hS _ (lv_sub hl [4, 5, 6, 7, 8, 9, 1, 10, 11, 12, 13, 14, 15, 16, 2, 0] rfl) hF
                          · replace hF := z_cf hF hc156
                            refine lv_iconst (v := 0) S.1 S.2.1 dL_same_405 (by decide) ?_
                            exact z_zretc S hr hlk hR hS (by decide) hF dL_same_406
        · replace hF := z_ct hF hc63
          refine lv_goto (tgt := 407) S.1 S.2.1 dL_same_159 (by decide) ?_
          obtain ⟨v158, ev158, hF⟩ := zL_out hF
          refine lv_iinc (v := v158) (lv' := [(15, .int v158), (0, .ref (g.1 0 0)), (1, .ref (g.1 26 0)), (2, .ref (g.1 27 0)), (3, .ref (g.1 28 0)), (4, .ref (g.1 29 0)), (5, .int a5), (6, .int a6), (7, .int a7), (8, .int a8), (9, .int a9), (10, .int a10), (11, .int a11), (12, .int a12), (13, .int a13), (14, .int a14)]) S.1 S.2.1 dL_same_407 hl (k := 15) rfl (by rw [← ev158]; rfl) (by decide) rfl (fun ls hl => ?_)
          refine lv_goto (tgt := 144) S.1 S.2.1 dL_same_410 (by decide) ?_
          exact ih _ _ _ _ _ _ hR hS _ (lv_sub hl [1, 2, 3, 4, 5, 6, 7, 8, 9, 10, 11, 12, 13, 14, 15, 0] rfl) hF
  have L480 : ∀ (k : zM → Int32 → Option (Int32 × zM)) (a5 : Int32) (a6 : Int32) (a7 : Int32) (a8 : Int32) (a9 : Int32) (a10 : Int32) (a11 : Int32) (a12 : Int32) (a13 : Int32) (a14 : Int32), (∀ (M : zM) (a15 : Int32) (H : Heap) (locs : List Loc), zR g M H → va_S (zS z) s.heap H locs → ∀ ls : Array Slot, lv_has ls 17 [(0, .ref (g.1 0 0)), (1, .ref (g.1 26 0)), (2, .ref (g.1 27 0)), (3, .ref (g.1 28 0)), (4, .ref (g.1 29 0)), (5, .int a5), (6, .int a6), (7, .int a7), (8, .int a8), (9, .int a9), (10, .int a10), (11, .int a11), (12, .int a12), (13, .int a13), (14, .int a14), (15, .int a15)] → k M a15 = some (r, M') → W p l e { frames := 6, cells := 0, slots := 0, locals := 134 } s m ([.ref (g.1 0 0), .ref (g.1 26 0), .ref (g.1 27 0), .ref (g.1 28 0), .ref (g.1 29 0)] : List Value).toArray below meth c H locs 0 0 (MQ below (zQi g z r M') ([.ref (g.1 0 0), .ref (g.1 26 0), .ref (g.1 27 0), .ref (g.1 28 0), .ref (g.1 29 0)] : List Value).toArray s 0 0 (zS z)) (F0 m 532 ls [])) → ∀ (n : Nat) (M : zM) (a15 : Int32) (H : Heap) (locs : List Loc), zR g M H → va_S (zS z) s.heap H locs → ∀ ls : Array Slot, lv_has ls 17 [(0, .ref (g.1 0 0)), (1, .ref (g.1 26 0)), (2, .ref (g.1 27 0)), (3, .ref (g.1 28 0)), (4, .ref (g.1 29 0)), (5, .int a5), (6, .int a6), (7, .int a7), (8, .int a8), (9, .int a9), (10, .int a10), (11, .int a11), (12, .int a12), (13, .int a13), (14, .int a14), (15, .int a15)] → fL_same_L480 k a5 a6 a7 a8 a9 a10 a11 a12 a13 a14 n M a15 = some (r, M') → W p l e { frames := 6, cells := 0, slots := 0, locals := 134 } s m ([.ref (g.1 0 0), .ref (g.1 26 0), .ref (g.1 27 0), .ref (g.1 28 0), .ref (g.1 29 0)] : List Value).toArray below meth c H locs 0 0 (MQ below (zQi g z r M') ([.ref (g.1 0 0), .ref (g.1 26 0), .ref (g.1 27 0), .ref (g.1 28 0), .ref (g.1 29 0)] : List Value).toArray s 0 0 (zS z)) (F0 m 480 ls []) := by
    intro k a5 a6 a7 a8 a9 a10 a11 a12 a13 a14 hk n
    induction n with
    | zero =>
      intro M a15 H locs hR hS ls hl hF
      cases hF
    | succ n ih =>
      intro M a15 H locs hR hS ls hl hF
      unfold fL_same_L480 at hF
      refine lv_iload S.1 S.2.1 dL_same_480 (lv_at hl 15 rfl) ?_
      refine lv_bipush (v := 9) S.1 S.2.1 dL_same_482 (by decide) ?_
      refine lv_icmp_ge (tgt := 532) S.1 S.2.1 dL_same_484 (by decide) (fun hc166 => ?_) (fun hc166 => ?_)
      · replace hF := z_ct hF hc166
        exact hk _ _ _ _ hR hS _ (lv_sub hl [0, 1, 2, 3, 4, 5, 6, 7, 8, 9, 10, 11, 12, 13, 14, 15] rfl) hF
      · replace hF := z_cf hF hc166
        refine lv_aload_n S.1 S.2.1 dL_same_487 rfl (lv_at hl 0 rfl) ?_
        refine lv_iload S.1 S.2.1 dL_same_488 (lv_at hl 9 rfl) ?_
        refine lv_iload S.1 S.2.1 dL_same_490 (lv_at hl 15 rfl) ?_
        refine z_goi hS hF (fun _ _ ho => va_runV (C := RX6) (n := 2) (As := [.int a9, .int a15]) (rest := []) S (kX6_kite l hg ho) (cwV 2 S.2.2.2.2 (zgV wm_L_40 oX6_kite) rfl rfl rfl hX6_kite ⟨Nat.le_of_ble_eq_true rfl, Nat.le_of_ble_eq_true rfl⟩) ⟨zPc_blind, z_recv hK hR (by decide) rfl rfl, z_pre hK hR⟩ rfl rfl hl.1 rfl (lv_room (Nat.le_of_ble_eq_true rfl)) dL_same_492 ⟨Nat.zero_le _, Nat.zero_le _⟩) (fun r168 M167 H locs hR hS hF => ?_)
        refine lv_aload_n S.1 S.2.1 dL_same_495 rfl (lv_at hl 2 rfl) ?_
        refine lv_iload S.1 S.2.1 dL_same_496 (lv_at hl 10 rfl) ?_
        refine lv_iload S.1 S.2.1 dL_same_498 (lv_at hl 15 rfl) ?_
        refine lv_iadd S.1 S.2.1 dL_same_500 ?_
        refine z_iald (k := 27) (i := 0) (n := 48) S hK hR hF (by decide) rfl dL_same_501 (fun hF => ?_)
        refine lv_iload S.1 S.2.1 dL_same_502 (lv_at hl 15 rfl) ?_
        refine lv_iconst (v := 3) S.1 S.2.1 dL_same_504 (by decide) ?_
        refine lv_icmp_eq (tgt := 514) S.1 S.2.1 dL_same_505 (by decide) (fun hc169 => ?_) (fun hc169 => ?_)
        · replace hF := z_ct hF hc169
          refine lv_bipush (v := 10) S.1 S.2.1 dL_same_514 (by decide) ?_
          refine lv_goto (tgt := 520) S.1 S.2.1 dL_same_516 (by decide) ?_
          refine lv_iadd S.1 S.2.1 dL_same_520 ?_
          refine lv_icmp_eq (tgt := 526) S.1 S.2.1 dL_same_521 (by decide) (fun hc170 => ?_) (fun hc170 => ?_)
          · replace hF := z_ct hF hc170
            obtain ⟨v171, ev171, hF⟩ := zL_out hF
            refine lv_iinc (v := v171) (lv' := [(15, .int v171), (0, .ref (g.1 0 0)), (1, .ref (g.1 26 0)), (2, .ref (g.1 27 0)), (3, .ref (g.1 28 0)), (4, .ref (g.1 29 0)), (5, .int a5), (6, .int a6), (7, .int a7), (8, .int a8), (9, .int a9), (10, .int a10), (11, .int a11), (12, .int a12), (13, .int a13), (14, .int a14)]) S.1 S.2.1 dL_same_526 hl (k := 15) rfl (by rw [← ev171]; rfl) (by decide) rfl (fun ls hl => ?_)
            refine lv_goto (tgt := 480) S.1 S.2.1 dL_same_529 (by decide) ?_
            exact ih _ _ _ _ hR hS _ (lv_sub hl [1, 2, 3, 4, 5, 6, 7, 8, 9, 10, 11, 12, 13, 14, 15, 0] rfl) hF
          · replace hF := z_cf hF hc170
            refine lv_iconst (v := 0) S.1 S.2.1 dL_same_524 (by decide) ?_
            exact z_zretc S hr hlk hR hS (by decide) hF dL_same_525
        · replace hF := z_cf hF hc169
          refine lv_iload S.1 S.2.1 dL_same_508 (lv_at hl 15 rfl) ?_
          refine lv_iconst (v := 4) S.1 S.2.1 dL_same_510 (by decide) ?_
          refine lv_icmp_ne (tgt := 519) S.1 S.2.1 dL_same_511 (by decide) (fun hc172 => ?_) (fun hc172 => ?_)
          · replace hF := z_cf hF hc172
            refine lv_iconst (v := 0) S.1 S.2.1 dL_same_519 (by decide) ?_
            refine lv_iadd S.1 S.2.1 dL_same_520 ?_
            refine lv_icmp_eq (tgt := 526) S.1 S.2.1 dL_same_521 (by decide) (fun hc173 => ?_) (fun hc173 => ?_)
            · replace hF := z_ct hF hc173
              obtain ⟨v174, ev174, hF⟩ := zL_out hF
              refine lv_iinc (v := v174) (lv' := [(15, .int v174), (0, .ref (g.1 0 0)), (1, .ref (g.1 26 0)), (2, .ref (g.1 27 0)), (3, .ref (g.1 28 0)), (4, .ref (g.1 29 0)), (5, .int a5), (6, .int a6), (7, .int a7), (8, .int a8), (9, .int a9), (10, .int a10), (11, .int a11), (12, .int a12), (13, .int a13), (14, .int a14)]) S.1 S.2.1 dL_same_526 hl (k := 15) rfl (by rw [← ev174]; rfl) (by decide) rfl (fun ls hl => ?_)
              refine lv_goto (tgt := 480) S.1 S.2.1 dL_same_529 (by decide) ?_
              exact ih _ _ _ _ hR hS _ (lv_sub hl [1, 2, 3, 4, 5, 6, 7, 8, 9, 10, 11, 12, 13, 14, 15, 0] rfl) hF
            · replace hF := z_cf hF hc173
              refine lv_iconst (v := 0) S.1 S.2.1 dL_same_524 (by decide) ?_
              exact z_zretc S hr hlk hR hS (by decide) hF dL_same_525
          · replace hF := z_ct hF hc172
            refine lv_bipush (v := 10) S.1 S.2.1 dL_same_514 (by decide) ?_
            refine lv_goto (tgt := 520) S.1 S.2.1 dL_same_516 (by decide) ?_
            refine lv_iadd S.1 S.2.1 dL_same_520 ?_
            refine lv_icmp_eq (tgt := 526) S.1 S.2.1 dL_same_521 (by decide) (fun hc175 => ?_) (fun hc175 => ?_)
            · replace hF := z_ct hF hc175
              obtain ⟨v176, ev176, hF⟩ := zL_out hF
              refine lv_iinc (v := v176) (lv' := [(15, .int v176), (0, .ref (g.1 0 0)), (1, .ref (g.1 26 0)), (2, .ref (g.1 27 0)), (3, .ref (g.1 28 0)), (4, .ref (g.1 29 0)), (5, .int a5), (6, .int a6), (7, .int a7), (8, .int a8), (9, .int a9), (10, .int a10), (11, .int a11), (12, .int a12), (13, .int a13), (14, .int a14)]) S.1 S.2.1 dL_same_526 hl (k := 15) rfl (by rw [← ev176]; rfl) (by decide) rfl (fun ls hl => ?_)
              refine lv_goto (tgt := 480) S.1 S.2.1 dL_same_529 (by decide) ?_
              exact ih _ _ _ _ hR hS _ (lv_sub hl [1, 2, 3, 4, 5, 6, 7, 8, 9, 10, 11, 12, 13, 14, 15, 0] rfl) hF
            · replace hF := z_cf hF hc175
              refine lv_iconst (v := 0) S.1 S.2.1 dL_same_524 (by decide) ?_
              exact z_zretc S hr hlk hR hS (by decide) hF dL_same_525
  have L16 : ∀ (k : zM → Int32 → Int32 → Int32 → Int32 → Int32 → Option (Int32 × zM)) , (∀ (M : zM) (a5 : Int32) (a6 : Int32) (a7 : Int32) (a8 : Int32) (a9 : Int32) (H : Heap) (locs : List Loc), zR g M H → va_S (zS z) s.heap H locs → ∀ ls : Array Slot, lv_has ls 17 [(0, .ref (g.1 0 0)), (1, .ref (g.1 26 0)), (2, .ref (g.1 27 0)), (3, .ref (g.1 28 0)), (4, .ref (g.1 29 0)), (5, .int a5), (6, .int a6), (7, .int a7), (8, .int a8), (9, .int a9)] → k M a5 a6 a7 a8 a9 = some (r, M') → W p l e { frames := 6, cells := 0, slots := 0, locals := 134 } s m ([.ref (g.1 0 0), .ref (g.1 26 0), .ref (g.1 27 0), .ref (g.1 28 0), .ref (g.1 29 0)] : List Value).toArray below meth c H locs 0 0 (MQ below (zQi g z r M') ([.ref (g.1 0 0), .ref (g.1 26 0), .ref (g.1 27 0), .ref (g.1 28 0), .ref (g.1 29 0)] : List Value).toArray s 0 0 (zS z)) (F0 m 606 ls [])) → ∀ (n : Nat) (M : zM) (a5 : Int32) (a6 : Int32) (a7 : Int32) (a8 : Int32) (a9 : Int32) (H : Heap) (locs : List Loc), zR g M H → va_S (zS z) s.heap H locs → ∀ ls : Array Slot, lv_has ls 17 [(0, .ref (g.1 0 0)), (1, .ref (g.1 26 0)), (2, .ref (g.1 27 0)), (3, .ref (g.1 28 0)), (4, .ref (g.1 29 0)), (5, .int a5), (6, .int a6), (7, .int a7), (8, .int a8), (9, .int a9)] → fL_same_L16 k n M a5 a6 a7 a8 a9 = some (r, M') → W p l e { frames := 6, cells := 0, slots := 0, locals := 134 } s m ([.ref (g.1 0 0), .ref (g.1 26 0), .ref (g.1 27 0), .ref (g.1 28 0), .ref (g.1 29 0)] : List Value).toArray below meth c H locs 0 0 (MQ below (zQi g z r M') ([.ref (g.1 0 0), .ref (g.1 26 0), .ref (g.1 27 0), .ref (g.1 28 0), .ref (g.1 29 0)] : List Value).toArray s 0 0 (zS z)) (F0 m 16 ls []) := by
    intro k  hk n
    induction n with
    | zero =>
      intro M a5 a6 a7 a8 a9 H locs hR hS ls hl hF
      cases hF
    | succ n ih =>
      intro M a5 a6 a7 a8 a9 H locs hR hS ls hl hF
      unfold fL_same_L16 at hF
      refine lv_iload S.1 S.2.1 dL_same_16 (lv_at hl 9 rfl) ?_
      refine lv_aload_n S.1 S.2.1 dL_same_18 rfl (lv_at hl 1 rfl) ?_
      refine lv_iconst (v := 0) S.1 S.2.1 dL_same_19 (by decide) ?_
      refine z_iald (k := 26) (i := 0) (n := 4) S hK hR hF (by decide) rfl dL_same_20 (fun hF => ?_)
      refine lv_icmp_ge (tgt := 606) S.1 S.2.1 dL_same_21 (by decide) (fun hc21 => ?_) (fun hc21 => ?_)
      · replace hF := z_ct hF hc21
        exact hk _ _ _ _ _ _ _ _ hR hS _ (lv_sub hl [0, 1, 2, 3, 4, 5, 6, 7, 8, 9] rfl) hF
      · replace hF := z_cf hF hc21
        refine lv_bipush (v := 12) S.1 S.2.1 dL_same_24 (by decide) ?_
        refine lv_iload S.1 S.2.1 dL_same_26 (lv_at hl 9 rfl) ?_
        refine lv_imul S.1 S.2.1 dL_same_28 ?_
        refine z_nm hF (fun v22 hF => ?_)
        refine lv_istore (lv' := [(10, .int v22), (0, .ref (g.1 0 0)), (1, .ref (g.1 26 0)), (2, .ref (g.1 27 0)), (3, .ref (g.1 28 0)), (4, .ref (g.1 29 0)), (5, .int a5), (6, .int a6), (7, .int a7), (8, .int a8), (9, .int a9)]) S.1 S.2.1 dL_same_29 hl (by decide) rfl (fun ls hl => ?_)
        refine lv_aload_n S.1 S.2.1 dL_same_31 rfl (lv_at hl 3 rfl) ?_
        refine lv_iload S.1 S.2.1 dL_same_32 (lv_at hl 0 rfl) ?_
        refine lv_bipush (v := 8) S.1 S.2.1 dL_same_34 (by decide) ?_
        refine lv_iadd S.1 S.2.1 dL_same_36 ?_
        refine z_iald (k := 27) (i := 0) (n := 48) S hK hR hF (by decide) rfl dL_same_37 (fun hF => ?_)
        refine lv_if_ne (tgt := 45) S.1 S.2.1 dL_same_38 (by decide) (fun hc23 => ?_) (fun hc23 => ?_)
        · replace hF := z_cf hF hc23
          refine lv_iconst (v := 0) S.1 S.2.1 dL_same_45 (by decide) ?_
          refine lv_istore (lv' := [(11, .int 0), (10, .int v22), (0, .ref (g.1 0 0)), (1, .ref (g.1 26 0)), (2, .ref (g.1 27 0)), (3, .ref (g.1 28 0)), (4, .ref (g.1 29 0)), (5, .int a5), (6, .int a6), (7, .int a7), (8, .int a8), (9, .int a9)]) S.1 S.2.1 dL_same_46 hl (by decide) rfl (fun ls hl => ?_)
          refine lv_iconst (v := 0) S.1 S.2.1 dL_same_48 (by decide) ?_
          refine lv_istore (lv' := [(12, .int 0), (11, .int 0), (10, .int v22), (0, .ref (g.1 0 0)), (1, .ref (g.1 26 0)), (2, .ref (g.1 27 0)), (3, .ref (g.1 28 0)), (4, .ref (g.1 29 0)), (5, .int a5), (6, .int a6), (7, .int a7), (8, .int a8), (9, .int a9)]) S.1 S.2.1 dL_same_49 hl (by decide) rfl (fun ls hl => ?_)
          refine lv_iconst (v := 0) S.1 S.2.1 dL_same_51 (by decide) ?_
          refine lv_istore (lv' := [(13, .int 0), (12, .int 0), (11, .int 0), (10, .int v22), (0, .ref (g.1 0 0)), (1, .ref (g.1 26 0)), (2, .ref (g.1 27 0)), (3, .ref (g.1 28 0)), (4, .ref (g.1 29 0)), (5, .int a5), (6, .int a6), (7, .int a7), (8, .int a8), (9, .int a9)]) S.1 S.2.1 dL_same_52 hl (by decide) rfl (fun ls hl => ?_)
          refine lv_iconst (v := 0) S.1 S.2.1 dL_same_54 (by decide) ?_
          refine lv_istore (lv' := [(14, .int 0), (13, .int 0), (12, .int 0), (11, .int 0), (10, .int v22), (0, .ref (g.1 0 0)), (1, .ref (g.1 26 0)), (2, .ref (g.1 27 0)), (3, .ref (g.1 28 0)), (4, .ref (g.1 29 0)), (5, .int a5), (6, .int a6), (7, .int a7), (8, .int a8), (9, .int a9)]) S.1 S.2.1 dL_same_55 hl (by decide) rfl (fun ls hl => ?_)
          refine lv_bipush (v := 31) S.1 S.2.1 dL_same_57 (by decide) ?_
          refine lv_istore (lv' := [(15, .int 31), (14, .int 0), (13, .int 0), (12, .int 0), (11, .int 0), (10, .int v22), (0, .ref (g.1 0 0)), (1, .ref (g.1 26 0)), (2, .ref (g.1 27 0)), (3, .ref (g.1 28 0)), (4, .ref (g.1 29 0)), (5, .int a5), (6, .int a6), (7, .int a7), (8, .int a8), (9, .int a9)]) S.1 S.2.1 dL_same_59 hl (by decide) rfl (fun ls hl => ?_)
          refine L61 _ _ _ _ _ _ _ _ _ (fun M58 v59 v60 v61 H locs hR hS ls hl hF => ?_) _ _ _ _ _ _ _ hR hS _ (lv_sub hl [6, 7, 8, 9, 10, 11, 12, 13, 14, 15, 5, 4, 3, 2, 1, 0] rfl) hF
          refine lv_iconst (v := 0) S.1 S.2.1 dL_same_141 (by decide) ?_
          refine lv_istore (lv' := [(15, .int 0), (0, .ref (g.1 0 0)), (1, .ref (g.1 26 0)), (2, .ref (g.1 27 0)), (3, .ref (g.1 28 0)), (4, .ref (g.1 29 0)), (5, .int a5), (6, .int a6), (7, .int a7), (8, .int a8), (9, .int a9), (10, .int v22), (11, .int 0), (12, .int v59), (13, .int v60), (14, .int 0)]) S.1 S.2.1 dL_same_142 hl (by decide) rfl (fun ls hl => ?_)
          refine L144 _ _ _ _ _ _ _ _ _ (fun M159 v160 v161 v162 H locs hR hS ls hl hF => ?_) _ _ _ _ _ _ _ hR hS _ (lv_sub hl [1, 2, 3, 4, 5, 6, 7, 8, 9, 10, 11, 12, 13, 14, 15, 0] rfl) hF
          refine lv_iload S.1 S.2.1 dL_same_413 (lv_at hl 5 rfl) ?_
          refine lv_iload S.1 S.2.1 dL_same_415 (lv_at hl 11 rfl) ?_
          refine lv_if_eq (tgt := 427) S.1 S.2.1 dL_same_417 (by decide) (fun _ => ?_) (fun hc => absurd hc (by decide))
          refine lv_iconst (v := 0) S.1 S.2.1 dL_same_427 (by decide) ?_
          refine lv_ior S.1 S.2.1 dL_same_428 ?_
          refine z_nm hF (fun v163 hF => ?_)
          refine lv_istore (lv' := [(5, .int v163), (0, .ref (g.1 0 0)), (1, .ref (g.1 26 0)), (2, .ref (g.1 27 0)), (3, .ref (g.1 28 0)), (4, .ref (g.1 29 0)), (6, .int v160), (7, .int a7), (8, .int a8), (9, .int a9), (10, .int v22), (11, .int 0), (12, .int v59), (13, .int v60), (14, .int v161), (15, .int v162)]) S.1 S.2.1 dL_same_429 hl (by decide) rfl (fun ls hl => ?_)
          refine lv_iload S.1 S.2.1 dL_same_431 (lv_at hl 7 rfl) ?_
          refine lv_aload_n S.1 S.2.1 dL_same_433 rfl (lv_at hl 3 rfl) ?_
          refine lv_iload S.1 S.2.1 dL_same_434 (lv_at hl 10 rfl) ?_
          refine lv_bipush (v := 7) S.1 S.2.1 dL_same_436 (by decide) ?_
          refine lv_iadd S.1 S.2.1 dL_same_438 ?_
          refine z_iald (k := 27) (i := 0) (n := 48) S hK hR hF (by decide) rfl dL_same_439 (fun hF => ?_)
          refine lv_iadd S.1 S.2.1 dL_same_440 ?_
          refine z_nm hF (fun v164 hF => ?_)
          refine lv_istore (lv' := [(7, .int v164), (5, .int v163), (0, .ref (g.1 0 0)), (1, .ref (g.1 26 0)), (2, .ref (g.1 27 0)), (3, .ref (g.1 28 0)), (4, .ref (g.1 29 0)), (6, .int v160), (8, .int a8), (9, .int a9), (10, .int v22), (11, .int 0), (12, .int v59), (13, .int v60), (14, .int v161), (15, .int v162)]) S.1 S.2.1 dL_same_441 hl (by decide) rfl (fun ls hl => ?_)
          refine lv_iload S.1 S.2.1 dL_same_443 (lv_at hl 8 rfl) ?_
          refine lv_if_lt (tgt := 468) S.1 S.2.1 dL_same_445 (by decide) (fun hc165 => ?_) (fun hc165 => ?_)
          · replace hF := z_ct hF hc165
            refine lv_iload S.1 S.2.1 dL_same_468 (lv_at hl 9 rfl) ?_
            refine lv_goto (tgt := 475) S.1 S.2.1 dL_same_470 (by decide) ?_
            refine lv_istore (lv' := [(8, .int a9), (7, .int v164), (5, .int v163), (0, .ref (g.1 0 0)), (1, .ref (g.1 26 0)), (2, .ref (g.1 27 0)), (3, .ref (g.1 28 0)), (4, .ref (g.1 29 0)), (6, .int v160), (9, .int a9), (10, .int v22), (11, .int 0), (12, .int v59), (13, .int v60), (14, .int v161), (15, .int v162)]) S.1 S.2.1 dL_same_475 hl (by decide) rfl (fun ls hl => ?_)
            refine lv_iconst (v := 0) S.1 S.2.1 dL_same_477 (by decide) ?_
            refine lv_istore (lv' := [(15, .int 0), (8, .int a9), (7, .int v164), (5, .int v163), (0, .ref (g.1 0 0)), (1, .ref (g.1 26 0)), (2, .ref (g.1 27 0)), (3, .ref (g.1 28 0)), (4, .ref (g.1 29 0)), (6, .int v160), (9, .int a9), (10, .int v22), (11, .int 0), (12, .int v59), (13, .int v60), (14, .int v161)]) S.1 S.2.1 dL_same_478 hl (by decide) rfl (fun ls hl => ?_)
            refine L480 _ _ _ _ _ _ _ _ _ _ _ (fun M177 v178 H locs hR hS ls hl hF => ?_) _ _ _ _ _ hR hS _ (lv_sub hl [4, 5, 6, 7, 8, 3, 9, 2, 1, 10, 11, 12, 13, 14, 15, 0] rfl) hF
            refine lv_aload_n S.1 S.2.1 dL_same_532 rfl (lv_at hl 0 rfl) ?_
            refine lv_iload S.1 S.2.1 dL_same_533 (lv_at hl 9 rfl) ?_
            refine lv_bipush (v := 9) S.1 S.2.1 dL_same_535 (by decide) ?_
            refine z_goi hS hF (fun _ _ ho => va_runV (C := RX6) (n := 2) (As := [.int a9, .int 9]) (rest := []) S (kX6_kite l hg ho) (cwV 2 S.2.2.2.2 (zgV wm_L_40 oX6_kite) rfl rfl rfl hX6_kite ⟨Nat.le_of_ble_eq_true rfl, Nat.le_of_ble_eq_true rfl⟩) ⟨zPc_blind, z_recv hK hR (by decide) rfl rfl, z_pre hK hR⟩ rfl rfl hl.1 rfl (lv_room (Nat.le_of_ble_eq_true rfl)) dL_same_537 ⟨Nat.zero_le _, Nat.zero_le _⟩) (fun r180 M179 H locs hR hS hF => ?_)
            refine lv_iload S.1 S.2.1 dL_same_540 (lv_at hl 11 rfl) ?_
            refine lv_if_eq (tgt := 550) S.1 S.2.1 dL_same_542 (by decide) (fun _ => ?_) (fun hc => absurd hc (by decide))
            refine lv_iconst (v := 0) S.1 S.2.1 dL_same_550 (by decide) ?_
            refine lv_icmp_ne (tgt := 598) S.1 S.2.1 dL_same_551 (by decide) (fun hc181 => ?_) (fun hc181 => ?_)
            · replace hF := z_cf hF hc181
              refine lv_iconst (v := 0) S.1 S.2.1 dL_same_598 (by decide) ?_
              exact z_zretc S hr hlk hR hS (by decide) hF dL_same_599
            · replace hF := z_ct hF hc181
              refine lv_aload_n S.1 S.2.1 dL_same_554 rfl (lv_at hl 0 rfl) ?_
              refine lv_iload S.1 S.2.1 dL_same_555 (lv_at hl 9 rfl) ?_
              refine lv_bipush (v := 10) S.1 S.2.1 dL_same_557 (by decide) ?_
              refine z_goi hS hF (fun _ _ ho => va_runV (C := RX6) (n := 2) (As := [.int a9, .int 10]) (rest := []) S (kX6_kite l hg ho) (cwV 2 S.2.2.2.2 (zgV wm_L_40 oX6_kite) rfl rfl rfl hX6_kite ⟨Nat.le_of_ble_eq_true rfl, Nat.le_of_ble_eq_true rfl⟩) ⟨zPc_blind, z_recv hK hR (by decide) rfl rfl, z_pre hK hR⟩ rfl rfl hl.1 rfl (lv_room (Nat.le_of_ble_eq_true rfl)) dL_same_559 ⟨Nat.zero_le _, Nat.zero_le _⟩) (fun r183 M182 H locs hR hS hF => ?_)
              refine lv_iload S.1 S.2.1 dL_same_562 (lv_at hl 11 rfl) ?_
              refine lv_if_eq (tgt := 572) S.1 S.2.1 dL_same_564 (by decide) (fun _ => ?_) (fun hc => absurd hc (by decide))
              refine lv_iconst (v := 0) S.1 S.2.1 dL_same_572 (by decide) ?_
              refine lv_icmp_ne (tgt := 598) S.1 S.2.1 dL_same_573 (by decide) (fun hc184 => ?_) (fun hc184 => ?_)
              · replace hF := z_cf hF hc184
                refine lv_iconst (v := 0) S.1 S.2.1 dL_same_598 (by decide) ?_
                exact z_zretc S hr hlk hR hS (by decide) hF dL_same_599
              · replace hF := z_ct hF hc184
                refine lv_aload_n S.1 S.2.1 dL_same_576 rfl (lv_at hl 0 rfl) ?_
                refine lv_iload S.1 S.2.1 dL_same_577 (lv_at hl 9 rfl) ?_
                refine lv_bipush (v := 11) S.1 S.2.1 dL_same_579 (by decide) ?_
                refine z_goi hS hF (fun _ _ ho => va_runV (C := RX6) (n := 2) (As := [.int a9, .int 11]) (rest := []) S (kX6_kite l hg ho) (cwV 2 S.2.2.2.2 (zgV wm_L_40 oX6_kite) rfl rfl rfl hX6_kite ⟨Nat.le_of_ble_eq_true rfl, Nat.le_of_ble_eq_true rfl⟩) ⟨zPc_blind, z_recv hK hR (by decide) rfl rfl, z_pre hK hR⟩ rfl rfl hl.1 rfl (lv_room (Nat.le_of_ble_eq_true rfl)) dL_same_581 ⟨Nat.zero_le _, Nat.zero_le _⟩) (fun r186 M185 H locs hR hS hF => ?_)
                refine lv_iload S.1 S.2.1 dL_same_584 (lv_at hl 11 rfl) ?_
                refine lv_if_eq (tgt := 594) S.1 S.2.1 dL_same_586 (by decide) (fun _ => ?_) (fun hc => absurd hc (by decide))
                refine lv_iconst (v := 0) S.1 S.2.1 dL_same_594 (by decide) ?_
                refine lv_icmp_eq (tgt := 600) S.1 S.2.1 dL_same_595 (by decide) (fun hc187 => ?_) (fun hc187 => ?_)
                · replace hF := z_ct hF hc187
                  obtain ⟨v188, ev188, hF⟩ := zL_out hF
                  refine lv_iinc (v := v188) (lv' := [(9, .int v188), (0, .ref (g.1 0 0)), (1, .ref (g.1 26 0)), (2, .ref (g.1 27 0)), (3, .ref (g.1 28 0)), (4, .ref (g.1 29 0)), (5, .int v163), (6, .int v160), (7, .int v164), (8, .int a9), (10, .int v22), (11, .int 0), (12, .int v59), (13, .int v60), (14, .int v161), (15, .int v178)]) S.1 S.2.1 dL_same_600 hl (k := 9) rfl (by rw [← ev188]; rfl) (by decide) rfl (fun ls hl => ?_)
                  refine lv_goto (tgt := 16) S.1 S.2.1 dL_same_603 (by decide) ?_
                  exact ih _ _ _ _ _ _ _ _ hR hS _ (lv_sub hl [1, 2, 3, 4, 5, 6, 7, 8, 9, 0] rfl) hF
                · replace hF := z_cf hF hc187
                  refine lv_iconst (v := 0) S.1 S.2.1 dL_same_598 (by decide) ?_
                  exact z_zretc S hr hlk hR hS (by decide) hF dL_same_599
          · replace hF := z_cf hF hc165
            refine lv_aload_n S.1 S.2.1 dL_same_448 rfl (lv_at hl 4 rfl) ?_
            refine lv_iload S.1 S.2.1 dL_same_449 (lv_at hl 10 rfl) ?_
            refine lv_bipush (v := 7) S.1 S.2.1 dL_same_451 (by decide) ?_
            refine lv_iadd S.1 S.2.1 dL_same_453 ?_
            refine z_iald (k := 27) (i := 0) (n := 48) S hK hR hF (by decide) rfl dL_same_454 (fun hF => ?_)
            refine lv_aload_n S.1 S.2.1 dL_same_455 rfl (lv_at hl 4 rfl) ?_
            refine lv_bipush (v := 12) S.1 S.2.1 dL_same_456 (by decide) ?_
            refine lv_iload S.1 S.2.1 dL_same_458 (lv_at hl 8 rfl) ?_
            refine lv_imul S.1 S.2.1 dL_same_460 ?_
            refine lv_bipush (v := 7) S.1 S.2.1 dL_same_461 (by decide) ?_
            refine lv_iadd S.1 S.2.1 dL_same_463 ?_
            refine z_iald (k := 27) (i := 0) (n := 48) S hK hR hF (by decide) rfl dL_same_464 (fun hF => ?_)
            refine lv_icmp_le (tgt := 473) S.1 S.2.1 dL_same_465 (by decide) (fun hc189 => ?_) (fun hc189 => ?_)
            · replace hF := z_ct hF hc189
              refine lv_iload S.1 S.2.1 dL_same_473 (lv_at hl 8 rfl) ?_
              refine lv_istore (lv' := [(8, .int a8), (7, .int v164), (5, .int v163), (0, .ref (g.1 0 0)), (1, .ref (g.1 26 0)), (2, .ref (g.1 27 0)), (3, .ref (g.1 28 0)), (4, .ref (g.1 29 0)), (6, .int v160), (9, .int a9), (10, .int v22), (11, .int 0), (12, .int v59), (13, .int v60), (14, .int v161), (15, .int v162)]) S.1 S.2.1 dL_same_475 hl (by decide) rfl (fun ls hl => ?_)
              refine lv_iconst (v := 0) S.1 S.2.1 dL_same_477 (by decide) ?_
              refine lv_istore (lv' := [(15, .int 0), (8, .int a8), (7, .int v164), (5, .int v163), (0, .ref (g.1 0 0)), (1, .ref (g.1 26 0)), (2, .ref (g.1 27 0)), (3, .ref (g.1 28 0)), (4, .ref (g.1 29 0)), (6, .int v160), (9, .int a9), (10, .int v22), (11, .int 0), (12, .int v59), (13, .int v60), (14, .int v161)]) S.1 S.2.1 dL_same_478 hl (by decide) rfl (fun ls hl => ?_)
              refine L480 _ _ _ _ _ _ _ _ _ _ _ (fun M190 v191 H locs hR hS ls hl hF => ?_) _ _ _ _ _ hR hS _ (lv_sub hl [4, 5, 6, 7, 8, 3, 9, 2, 1, 10, 11, 12, 13, 14, 15, 0] rfl) hF
              refine lv_aload_n S.1 S.2.1 dL_same_532 rfl (lv_at hl 0 rfl) ?_
              refine lv_iload S.1 S.2.1 dL_same_533 (lv_at hl 9 rfl) ?_
              refine lv_bipush (v := 9) S.1 S.2.1 dL_same_535 (by decide) ?_
              refine z_goi hS hF (fun _ _ ho => va_runV (C := RX6) (n := 2) (As := [.int a9, .int 9]) (rest := []) S (kX6_kite l hg ho) (cwV 2 S.2.2.2.2 (zgV wm_L_40 oX6_kite) rfl rfl rfl hX6_kite ⟨Nat.le_of_ble_eq_true rfl, Nat.le_of_ble_eq_true rfl⟩) ⟨zPc_blind, z_recv hK hR (by decide) rfl rfl, z_pre hK hR⟩ rfl rfl hl.1 rfl (lv_room (Nat.le_of_ble_eq_true rfl)) dL_same_537 ⟨Nat.zero_le _, Nat.zero_le _⟩) (fun r193 M192 H locs hR hS hF => ?_)
              refine lv_iload S.1 S.2.1 dL_same_540 (lv_at hl 11 rfl) ?_
              refine lv_if_eq (tgt := 550) S.1 S.2.1 dL_same_542 (by decide) (fun _ => ?_) (fun hc => absurd hc (by decide))
              refine lv_iconst (v := 0) S.1 S.2.1 dL_same_550 (by decide) ?_
              refine lv_icmp_ne (tgt := 598) S.1 S.2.1 dL_same_551 (by decide) (fun hc194 => ?_) (fun hc194 => ?_)
              · replace hF := z_cf hF hc194
                refine lv_iconst (v := 0) S.1 S.2.1 dL_same_598 (by decide) ?_
                exact z_zretc S hr hlk hR hS (by decide) hF dL_same_599
              · replace hF := z_ct hF hc194
                refine lv_aload_n S.1 S.2.1 dL_same_554 rfl (lv_at hl 0 rfl) ?_
                refine lv_iload S.1 S.2.1 dL_same_555 (lv_at hl 9 rfl) ?_
                refine lv_bipush (v := 10) S.1 S.2.1 dL_same_557 (by decide) ?_
                refine z_goi hS hF (fun _ _ ho => va_runV (C := RX6) (n := 2) (As := [.int a9, .int 10]) (rest := []) S (kX6_kite l hg ho) (cwV 2 S.2.2.2.2 (zgV wm_L_40 oX6_kite) rfl rfl rfl hX6_kite ⟨Nat.le_of_ble_eq_true rfl, Nat.le_of_ble_eq_true rfl⟩) ⟨zPc_blind, z_recv hK hR (by decide) rfl rfl, z_pre hK hR⟩ rfl rfl hl.1 rfl (lv_room (Nat.le_of_ble_eq_true rfl)) dL_same_559 ⟨Nat.zero_le _, Nat.zero_le _⟩) (fun r196 M195 H locs hR hS hF => ?_)
                refine lv_iload S.1 S.2.1 dL_same_562 (lv_at hl 11 rfl) ?_
                refine lv_if_eq (tgt := 572) S.1 S.2.1 dL_same_564 (by decide) (fun _ => ?_) (fun hc => absurd hc (by decide))
                refine lv_iconst (v := 0) S.1 S.2.1 dL_same_572 (by decide) ?_
                refine lv_icmp_ne (tgt := 598) S.1 S.2.1 dL_same_573 (by decide) (fun hc197 => ?_) (fun hc197 => ?_)
                · replace hF := z_cf hF hc197
                  refine lv_iconst (v := 0) S.1 S.2.1 dL_same_598 (by decide) ?_
                  exact z_zretc S hr hlk hR hS (by decide) hF dL_same_599
                · replace hF := z_ct hF hc197
                  refine lv_aload_n S.1 S.2.1 dL_same_576 rfl (lv_at hl 0 rfl) ?_
                  refine lv_iload S.1 S.2.1 dL_same_577 (lv_at hl 9 rfl) ?_
                  refine lv_bipush (v := 11) S.1 S.2.1 dL_same_579 (by decide) ?_
                  refine z_goi hS hF (fun _ _ ho => va_runV (C := RX6) (n := 2) (As := [.int a9, .int 11]) (rest := []) S (kX6_kite l hg ho) (cwV 2 S.2.2.2.2 (zgV wm_L_40 oX6_kite) rfl rfl rfl hX6_kite ⟨Nat.le_of_ble_eq_true rfl, Nat.le_of_ble_eq_true rfl⟩) ⟨zPc_blind, z_recv hK hR (by decide) rfl rfl, z_pre hK hR⟩ rfl rfl hl.1 rfl (lv_room (Nat.le_of_ble_eq_true rfl)) dL_same_581 ⟨Nat.zero_le _, Nat.zero_le _⟩) (fun r199 M198 H locs hR hS hF => ?_)
                  refine lv_iload S.1 S.2.1 dL_same_584 (lv_at hl 11 rfl) ?_
                  refine lv_if_eq (tgt := 594) S.1 S.2.1 dL_same_586 (by decide) (fun _ => ?_) (fun hc => absurd hc (by decide))
                  refine lv_iconst (v := 0) S.1 S.2.1 dL_same_594 (by decide) ?_
                  refine lv_icmp_eq (tgt := 600) S.1 S.2.1 dL_same_595 (by decide) (fun hc200 => ?_) (fun hc200 => ?_)
                  · replace hF := z_ct hF hc200
                    obtain ⟨v201, ev201, hF⟩ := zL_out hF
                    refine lv_iinc (v := v201) (lv' := [(9, .int v201), (0, .ref (g.1 0 0)), (1, .ref (g.1 26 0)), (2, .ref (g.1 27 0)), (3, .ref (g.1 28 0)), (4, .ref (g.1 29 0)), (5, .int v163), (6, .int v160), (7, .int v164), (8, .int a8), (10, .int v22), (11, .int 0), (12, .int v59), (13, .int v60), (14, .int v161), (15, .int v191)]) S.1 S.2.1 dL_same_600 hl (k := 9) rfl (by rw [← ev201]; rfl) (by decide) rfl (fun ls hl => ?_)
                    refine lv_goto (tgt := 16) S.1 S.2.1 dL_same_603 (by decide) ?_
                    exact ih _ _ _ _ _ _ _ _ hR hS _ (lv_sub hl [1, 2, 3, 4, 5, 6, 7, 8, 9, 0] rfl) hF
                  · replace hF := z_cf hF hc200
                    refine lv_iconst (v := 0) S.1 S.2.1 dL_same_598 (by decide) ?_
                    exact z_zretc S hr hlk hR hS (by decide) hF dL_same_599
            · replace hF := z_cf hF hc189
              refine lv_iload S.1 S.2.1 dL_same_468 (lv_at hl 9 rfl) ?_
              refine lv_goto (tgt := 475) S.1 S.2.1 dL_same_470 (by decide) ?_
              refine lv_istore (lv' := [(8, .int a9), (7, .int v164), (5, .int v163), (0, .ref (g.1 0 0)), (1, .ref (g.1 26 0)), (2, .ref (g.1 27 0)), (3, .ref (g.1 28 0)), (4, .ref (g.1 29 0)), (6, .int v160), (9, .int a9), (10, .int v22), (11, .int 0), (12, .int v59), (13, .int v60), (14, .int v161), (15, .int v162)]) S.1 S.2.1 dL_same_475 hl (by decide) rfl (fun ls hl => ?_)
              refine lv_iconst (v := 0) S.1 S.2.1 dL_same_477 (by decide) ?_
              refine lv_istore (lv' := [(15, .int 0), (8, .int a9), (7, .int v164), (5, .int v163), (0, .ref (g.1 0 0)), (1, .ref (g.1 26 0)), (2, .ref (g.1 27 0)), (3, .ref (g.1 28 0)), (4, .ref (g.1 29 0)), (6, .int v160), (9, .int a9), (10, .int v22), (11, .int 0), (12, .int v59), (13, .int v60), (14, .int v161)]) S.1 S.2.1 dL_same_478 hl (by decide) rfl (fun ls hl => ?_)
              refine L480 _ _ _ _ _ _ _ _ _ _ _ (fun M202 v203 H locs hR hS ls hl hF => ?_) _ _ _ _ _ hR hS _ (lv_sub hl [4, 5, 6, 7, 8, 3, 9, 2, 1, 10, 11, 12, 13, 14, 15, 0] rfl) hF
              refine lv_aload_n S.1 S.2.1 dL_same_532 rfl (lv_at hl 0 rfl) ?_
              refine lv_iload S.1 S.2.1 dL_same_533 (lv_at hl 9 rfl) ?_
              refine lv_bipush (v := 9) S.1 S.2.1 dL_same_535 (by decide) ?_
              refine z_goi hS hF (fun _ _ ho => va_runV (C := RX6) (n := 2) (As := [.int a9, .int 9]) (rest := []) S (kX6_kite l hg ho) (cwV 2 S.2.2.2.2 (zgV wm_L_40 oX6_kite) rfl rfl rfl hX6_kite ⟨Nat.le_of_ble_eq_true rfl, Nat.le_of_ble_eq_true rfl⟩) ⟨zPc_blind, z_recv hK hR (by decide) rfl rfl, z_pre hK hR⟩ rfl rfl hl.1 rfl (lv_room (Nat.le_of_ble_eq_true rfl)) dL_same_537 ⟨Nat.zero_le _, Nat.zero_le _⟩) (fun r205 M204 H locs hR hS hF => ?_)
              refine lv_iload S.1 S.2.1 dL_same_540 (lv_at hl 11 rfl) ?_
              refine lv_if_eq (tgt := 550) S.1 S.2.1 dL_same_542 (by decide) (fun _ => ?_) (fun hc => absurd hc (by decide))
              refine lv_iconst (v := 0) S.1 S.2.1 dL_same_550 (by decide) ?_
              refine lv_icmp_ne (tgt := 598) S.1 S.2.1 dL_same_551 (by decide) (fun hc206 => ?_) (fun hc206 => ?_)
              · replace hF := z_cf hF hc206
                refine lv_iconst (v := 0) S.1 S.2.1 dL_same_598 (by decide) ?_
                exact z_zretc S hr hlk hR hS (by decide) hF dL_same_599
              · replace hF := z_ct hF hc206
                refine lv_aload_n S.1 S.2.1 dL_same_554 rfl (lv_at hl 0 rfl) ?_
                refine lv_iload S.1 S.2.1 dL_same_555 (lv_at hl 9 rfl) ?_
                refine lv_bipush (v := 10) S.1 S.2.1 dL_same_557 (by decide) ?_
                refine z_goi hS hF (fun _ _ ho => va_runV (C := RX6) (n := 2) (As := [.int a9, .int 10]) (rest := []) S (kX6_kite l hg ho) (cwV 2 S.2.2.2.2 (zgV wm_L_40 oX6_kite) rfl rfl rfl hX6_kite ⟨Nat.le_of_ble_eq_true rfl, Nat.le_of_ble_eq_true rfl⟩) ⟨zPc_blind, z_recv hK hR (by decide) rfl rfl, z_pre hK hR⟩ rfl rfl hl.1 rfl (lv_room (Nat.le_of_ble_eq_true rfl)) dL_same_559 ⟨Nat.zero_le _, Nat.zero_le _⟩) (fun r208 M207 H locs hR hS hF => ?_)
                refine lv_iload S.1 S.2.1 dL_same_562 (lv_at hl 11 rfl) ?_
                refine lv_if_eq (tgt := 572) S.1 S.2.1 dL_same_564 (by decide) (fun _ => ?_) (fun hc => absurd hc (by decide))
                refine lv_iconst (v := 0) S.1 S.2.1 dL_same_572 (by decide) ?_
                refine lv_icmp_ne (tgt := 598) S.1 S.2.1 dL_same_573 (by decide) (fun hc209 => ?_) (fun hc209 => ?_)
                · replace hF := z_cf hF hc209
                  refine lv_iconst (v := 0) S.1 S.2.1 dL_same_598 (by decide) ?_
                  exact z_zretc S hr hlk hR hS (by decide) hF dL_same_599
                · replace hF := z_ct hF hc209
                  refine lv_aload_n S.1 S.2.1 dL_same_576 rfl (lv_at hl 0 rfl) ?_
                  refine lv_iload S.1 S.2.1 dL_same_577 (lv_at hl 9 rfl) ?_
                  refine lv_bipush (v := 11) S.1 S.2.1 dL_same_579 (by decide) ?_
                  refine z_goi hS hF (fun _ _ ho => va_runV (C := RX6) (n := 2) (As := [.int a9, .int 11]) (rest := []) S (kX6_kite l hg ho) (cwV 2 S.2.2.2.2 (zgV wm_L_40 oX6_kite) rfl rfl rfl hX6_kite ⟨Nat.le_of_ble_eq_true rfl, Nat.le_of_ble_eq_true rfl⟩) ⟨zPc_blind, z_recv hK hR (by decide) rfl rfl, z_pre hK hR⟩ rfl rfl hl.1 rfl (lv_room (Nat.le_of_ble_eq_true rfl)) dL_same_581 ⟨Nat.zero_le _, Nat.zero_le _⟩) (fun r211 M210 H locs hR hS hF => ?_)
                  refine lv_iload S.1 S.2.1 dL_same_584 (lv_at hl 11 rfl) ?_
                  refine lv_if_eq (tgt := 594) S.1 S.2.1 dL_same_586 (by decide) (fun _ => ?_) (fun hc => absurd hc (by decide))
                  refine lv_iconst (v := 0) S.1 S.2.1 dL_same_594 (by decide) ?_
                  refine lv_icmp_eq (tgt := 600) S.1 S.2.1 dL_same_595 (by decide) (fun hc212 => ?_) (fun hc212 => ?_)
                  · replace hF := z_ct hF hc212
                    obtain ⟨v213, ev213, hF⟩ := zL_out hF
                    refine lv_iinc (v := v213) (lv' := [(9, .int v213), (0, .ref (g.1 0 0)), (1, .ref (g.1 26 0)), (2, .ref (g.1 27 0)), (3, .ref (g.1 28 0)), (4, .ref (g.1 29 0)), (5, .int v163), (6, .int v160), (7, .int v164), (8, .int a9), (10, .int v22), (11, .int 0), (12, .int v59), (13, .int v60), (14, .int v161), (15, .int v203)]) S.1 S.2.1 dL_same_600 hl (k := 9) rfl (by rw [← ev213]; rfl) (by decide) rfl (fun ls hl => ?_)
                    refine lv_goto (tgt := 16) S.1 S.2.1 dL_same_603 (by decide) ?_
                    exact ih _ _ _ _ _ _ _ _ hR hS _ (lv_sub hl [1, 2, 3, 4, 5, 6, 7, 8, 9, 0] rfl) hF
                  · replace hF := z_cf hF hc212
                    refine lv_iconst (v := 0) S.1 S.2.1 dL_same_598 (by decide) ?_
                    exact z_zretc S hr hlk hR hS (by decide) hF dL_same_599
        · replace hF := z_ct hF hc23
          refine lv_iconst (v := 1) S.1 S.2.1 dL_same_41 (by decide) ?_
          refine lv_goto (tgt := 46) S.1 S.2.1 dL_same_42 (by decide) ?_
          refine lv_istore (lv' := [(11, .int 1), (10, .int v22), (0, .ref (g.1 0 0)), (1, .ref (g.1 26 0)), (2, .ref (g.1 27 0)), (3, .ref (g.1 28 0)), (4, .ref (g.1 29 0)), (5, .int a5), (6, .int a6), (7, .int a7), (8, .int a8), (9, .int a9)]) S.1 S.2.1 dL_same_46 hl (by decide) rfl (fun ls hl => ?_)
          refine lv_iconst (v := 0) S.1 S.2.1 dL_same_48 (by decide) ?_
          refine lv_istore (lv' := [(12, .int 0), (11, .int 1), (10, .int v22), (0, .ref (g.1 0 0)), (1, .ref (g.1 26 0)), (2, .ref (g.1 27 0)), (3, .ref (g.1 28 0)), (4, .ref (g.1 29 0)), (5, .int a5), (6, .int a6), (7, .int a7), (8, .int a8), (9, .int a9)]) S.1 S.2.1 dL_same_49 hl (by decide) rfl (fun ls hl => ?_)
          refine lv_iconst (v := 0) S.1 S.2.1 dL_same_51 (by decide) ?_
          refine lv_istore (lv' := [(13, .int 0), (12, .int 0), (11, .int 1), (10, .int v22), (0, .ref (g.1 0 0)), (1, .ref (g.1 26 0)), (2, .ref (g.1 27 0)), (3, .ref (g.1 28 0)), (4, .ref (g.1 29 0)), (5, .int a5), (6, .int a6), (7, .int a7), (8, .int a8), (9, .int a9)]) S.1 S.2.1 dL_same_52 hl (by decide) rfl (fun ls hl => ?_)
          refine lv_iconst (v := 0) S.1 S.2.1 dL_same_54 (by decide) ?_
          refine lv_istore (lv' := [(14, .int 0), (13, .int 0), (12, .int 0), (11, .int 1), (10, .int v22), (0, .ref (g.1 0 0)), (1, .ref (g.1 26 0)), (2, .ref (g.1 27 0)), (3, .ref (g.1 28 0)), (4, .ref (g.1 29 0)), (5, .int a5), (6, .int a6), (7, .int a7), (8, .int a8), (9, .int a9)]) S.1 S.2.1 dL_same_55 hl (by decide) rfl (fun ls hl => ?_)
          refine lv_bipush (v := 31) S.1 S.2.1 dL_same_57 (by decide) ?_
          refine lv_istore (lv' := [(15, .int 31), (14, .int 0), (13, .int 0), (12, .int 0), (11, .int 1), (10, .int v22), (0, .ref (g.1 0 0)), (1, .ref (g.1 26 0)), (2, .ref (g.1 27 0)), (3, .ref (g.1 28 0)), (4, .ref (g.1 29 0)), (5, .int a5), (6, .int a6), (7, .int a7), (8, .int a8), (9, .int a9)]) S.1 S.2.1 dL_same_59 hl (by decide) rfl (fun ls hl => ?_)
          refine L61 _ _ _ _ _ _ _ _ _ (fun M214 v215 v216 v217 H locs hR hS ls hl hF => ?_) _ _ _ _ _ _ _ hR hS _ (lv_sub hl [6, 7, 8, 9, 10, 11, 12, 13, 14, 15, 5, 4, 3, 2, 1, 0] rfl) hF
          refine lv_iconst (v := 0) S.1 S.2.1 dL_same_141 (by decide) ?_
          refine lv_istore (lv' := [(15, .int 0), (0, .ref (g.1 0 0)), (1, .ref (g.1 26 0)), (2, .ref (g.1 27 0)), (3, .ref (g.1 28 0)), (4, .ref (g.1 29 0)), (5, .int a5), (6, .int a6), (7, .int a7), (8, .int a8), (9, .int a9), (10, .int v22), (11, .int 1), (12, .int v215), (13, .int v216), (14, .int 0)]) S.1 S.2.1 dL_same_142 hl (by decide) rfl (fun ls hl => ?_)
          refine L144 _ _ _ _ _ _ _ _ _ (fun M218 v219 v220 v221 H locs hR hS ls hl hF => ?_) _ _ _ _ _ _ _ hR hS _ (lv_sub hl [1, 2, 3, 4, 5, 6, 7, 8, 9, 10, 11, 12, 13, 14, 15, 0] rfl) hF
          refine lv_iload S.1 S.2.1 dL_same_413 (lv_at hl 5 rfl) ?_
          refine lv_iload S.1 S.2.1 dL_same_415 (lv_at hl 11 rfl) ?_
          refine lv_if_eq (tgt := 427) S.1 S.2.1 dL_same_417 (by decide) (fun hc => absurd hc (by decide)) (fun _ => ?_)
          refine lv_iconst (v := 1) S.1 S.2.1 dL_same_420 (by decide) ?_
          refine lv_iload S.1 S.2.1 dL_same_421 (lv_at hl 9 rfl) ?_
          refine lv_ishl S.1 S.2.1 dL_same_423 ?_
          refine lv_goto (tgt := 428) S.1 S.2.1 dL_same_424 (by decide) ?_
          refine lv_ior S.1 S.2.1 dL_same_428 ?_
          refine z_nm hF (fun v222 hF => ?_)
          refine lv_istore (lv' := [(5, .int v222), (0, .ref (g.1 0 0)), (1, .ref (g.1 26 0)), (2, .ref (g.1 27 0)), (3, .ref (g.1 28 0)), (4, .ref (g.1 29 0)), (6, .int v219), (7, .int a7), (8, .int a8), (9, .int a9), (10, .int v22), (11, .int 1), (12, .int v215), (13, .int v216), (14, .int v220), (15, .int v221)]) S.1 S.2.1 dL_same_429 hl (by decide) rfl (fun ls hl => ?_)
          refine lv_iload S.1 S.2.1 dL_same_431 (lv_at hl 7 rfl) ?_
          refine lv_aload_n S.1 S.2.1 dL_same_433 rfl (lv_at hl 3 rfl) ?_
          refine lv_iload S.1 S.2.1 dL_same_434 (lv_at hl 10 rfl) ?_
          refine lv_bipush (v := 7) S.1 S.2.1 dL_same_436 (by decide) ?_
          refine lv_iadd S.1 S.2.1 dL_same_438 ?_
          refine z_iald (k := 27) (i := 0) (n := 48) S hK hR hF (by decide) rfl dL_same_439 (fun hF => ?_)
          refine lv_iadd S.1 S.2.1 dL_same_440 ?_
          refine z_nm hF (fun v223 hF => ?_)
          refine lv_istore (lv' := [(7, .int v223), (5, .int v222), (0, .ref (g.1 0 0)), (1, .ref (g.1 26 0)), (2, .ref (g.1 27 0)), (3, .ref (g.1 28 0)), (4, .ref (g.1 29 0)), (6, .int v219), (8, .int a8), (9, .int a9), (10, .int v22), (11, .int 1), (12, .int v215), (13, .int v216), (14, .int v220), (15, .int v221)]) S.1 S.2.1 dL_same_441 hl (by decide) rfl (fun ls hl => ?_)
          refine lv_iload S.1 S.2.1 dL_same_443 (lv_at hl 8 rfl) ?_
          refine lv_if_lt (tgt := 468) S.1 S.2.1 dL_same_445 (by decide) (fun hc224 => ?_) (fun hc224 => ?_)
          · replace hF := z_ct hF hc224
            refine lv_iload S.1 S.2.1 dL_same_468 (lv_at hl 9 rfl) ?_
            refine lv_goto (tgt := 475) S.1 S.2.1 dL_same_470 (by decide) ?_
            refine lv_istore (lv' := [(8, .int a9), (7, .int v223), (5, .int v222), (0, .ref (g.1 0 0)), (1, .ref (g.1 26 0)), (2, .ref (g.1 27 0)), (3, .ref (g.1 28 0)), (4, .ref (g.1 29 0)), (6, .int v219), (9, .int a9), (10, .int v22), (11, .int 1), (12, .int v215), (13, .int v216), (14, .int v220), (15, .int v221)]) S.1 S.2.1 dL_same_475 hl (by decide) rfl (fun ls hl => ?_)
            refine lv_iconst (v := 0) S.1 S.2.1 dL_same_477 (by decide) ?_
            refine lv_istore (lv' := [(15, .int 0), (8, .int a9), (7, .int v223), (5, .int v222), (0, .ref (g.1 0 0)), (1, .ref (g.1 26 0)), (2, .ref (g.1 27 0)), (3, .ref (g.1 28 0)), (4, .ref (g.1 29 0)), (6, .int v219), (9, .int a9), (10, .int v22), (11, .int 1), (12, .int v215), (13, .int v216), (14, .int v220)]) S.1 S.2.1 dL_same_478 hl (by decide) rfl (fun ls hl => ?_)
            refine L480 _ _ _ _ _ _ _ _ _ _ _ (fun M225 v226 H locs hR hS ls hl hF => ?_) _ _ _ _ _ hR hS _ (lv_sub hl [4, 5, 6, 7, 8, 3, 9, 2, 1, 10, 11, 12, 13, 14, 15, 0] rfl) hF
            refine lv_aload_n S.1 S.2.1 dL_same_532 rfl (lv_at hl 0 rfl) ?_
            refine lv_iload S.1 S.2.1 dL_same_533 (lv_at hl 9 rfl) ?_
            refine lv_bipush (v := 9) S.1 S.2.1 dL_same_535 (by decide) ?_
            refine z_goi hS hF (fun _ _ ho => va_runV (C := RX6) (n := 2) (As := [.int a9, .int 9]) (rest := []) S (kX6_kite l hg ho) (cwV 2 S.2.2.2.2 (zgV wm_L_40 oX6_kite) rfl rfl rfl hX6_kite ⟨Nat.le_of_ble_eq_true rfl, Nat.le_of_ble_eq_true rfl⟩) ⟨zPc_blind, z_recv hK hR (by decide) rfl rfl, z_pre hK hR⟩ rfl rfl hl.1 rfl (lv_room (Nat.le_of_ble_eq_true rfl)) dL_same_537 ⟨Nat.zero_le _, Nat.zero_le _⟩) (fun r228 M227 H locs hR hS hF => ?_)
            refine lv_iload S.1 S.2.1 dL_same_540 (lv_at hl 11 rfl) ?_
            refine lv_if_eq (tgt := 550) S.1 S.2.1 dL_same_542 (by decide) (fun hc => absurd hc (by decide)) (fun _ => ?_)
            refine lv_iload S.1 S.2.1 dL_same_545 (lv_at hl 12 rfl) ?_
            refine lv_goto (tgt := 551) S.1 S.2.1 dL_same_547 (by decide) ?_
            refine lv_icmp_ne (tgt := 598) S.1 S.2.1 dL_same_551 (by decide) (fun hc229 => ?_) (fun hc229 => ?_)
            · replace hF := z_cf hF hc229
              refine lv_iconst (v := 0) S.1 S.2.1 dL_same_598 (by decide) ?_
              exact z_zretc S hr hlk hR hS (by decide) hF dL_same_599
            · replace hF := z_ct hF hc229
              refine lv_aload_n S.1 S.2.1 dL_same_554 rfl (lv_at hl 0 rfl) ?_
              refine lv_iload S.1 S.2.1 dL_same_555 (lv_at hl 9 rfl) ?_
              refine lv_bipush (v := 10) S.1 S.2.1 dL_same_557 (by decide) ?_
              refine z_goi hS hF (fun _ _ ho => va_runV (C := RX6) (n := 2) (As := [.int a9, .int 10]) (rest := []) S (kX6_kite l hg ho) (cwV 2 S.2.2.2.2 (zgV wm_L_40 oX6_kite) rfl rfl rfl hX6_kite ⟨Nat.le_of_ble_eq_true rfl, Nat.le_of_ble_eq_true rfl⟩) ⟨zPc_blind, z_recv hK hR (by decide) rfl rfl, z_pre hK hR⟩ rfl rfl hl.1 rfl (lv_room (Nat.le_of_ble_eq_true rfl)) dL_same_559 ⟨Nat.zero_le _, Nat.zero_le _⟩) (fun r231 M230 H locs hR hS hF => ?_)
              refine lv_iload S.1 S.2.1 dL_same_562 (lv_at hl 11 rfl) ?_
              refine lv_if_eq (tgt := 572) S.1 S.2.1 dL_same_564 (by decide) (fun hc => absurd hc (by decide)) (fun _ => ?_)
              refine lv_iload S.1 S.2.1 dL_same_567 (lv_at hl 13 rfl) ?_
              refine lv_goto (tgt := 573) S.1 S.2.1 dL_same_569 (by decide) ?_
              refine lv_icmp_ne (tgt := 598) S.1 S.2.1 dL_same_573 (by decide) (fun hc232 => ?_) (fun hc232 => ?_)
              · replace hF := z_cf hF hc232
                refine lv_iconst (v := 0) S.1 S.2.1 dL_same_598 (by decide) ?_
                exact z_zretc S hr hlk hR hS (by decide) hF dL_same_599
              · replace hF := z_ct hF hc232
                refine lv_aload_n S.1 S.2.1 dL_same_576 rfl (lv_at hl 0 rfl) ?_
                refine lv_iload S.1 S.2.1 dL_same_577 (lv_at hl 9 rfl) ?_
                refine lv_bipush (v := 11) S.1 S.2.1 dL_same_579 (by decide) ?_
                refine z_goi hS hF (fun _ _ ho => va_runV (C := RX6) (n := 2) (As := [.int a9, .int 11]) (rest := []) S (kX6_kite l hg ho) (cwV 2 S.2.2.2.2 (zgV wm_L_40 oX6_kite) rfl rfl rfl hX6_kite ⟨Nat.le_of_ble_eq_true rfl, Nat.le_of_ble_eq_true rfl⟩) ⟨zPc_blind, z_recv hK hR (by decide) rfl rfl, z_pre hK hR⟩ rfl rfl hl.1 rfl (lv_room (Nat.le_of_ble_eq_true rfl)) dL_same_581 ⟨Nat.zero_le _, Nat.zero_le _⟩) (fun r234 M233 H locs hR hS hF => ?_)
                refine lv_iload S.1 S.2.1 dL_same_584 (lv_at hl 11 rfl) ?_
                refine lv_if_eq (tgt := 594) S.1 S.2.1 dL_same_586 (by decide) (fun hc => absurd hc (by decide)) (fun _ => ?_)
                refine lv_iload S.1 S.2.1 dL_same_589 (lv_at hl 14 rfl) ?_
                refine lv_goto (tgt := 595) S.1 S.2.1 dL_same_591 (by decide) ?_
                refine lv_icmp_eq (tgt := 600) S.1 S.2.1 dL_same_595 (by decide) (fun hc235 => ?_) (fun hc235 => ?_)
                · replace hF := z_ct hF hc235
                  obtain ⟨v236, ev236, hF⟩ := zL_out hF
                  refine lv_iinc (v := v236) (lv' := [(9, .int v236), (0, .ref (g.1 0 0)), (1, .ref (g.1 26 0)), (2, .ref (g.1 27 0)), (3, .ref (g.1 28 0)), (4, .ref (g.1 29 0)), (5, .int v222), (6, .int v219), (7, .int v223), (8, .int a9), (10, .int v22), (11, .int 1), (12, .int v215), (13, .int v216), (14, .int v220), (15, .int v226)]) S.1 S.2.1 dL_same_600 hl (k := 9) rfl (by rw [← ev236]; rfl) (by decide) rfl (fun ls hl => ?_)
                  refine lv_goto (tgt := 16) S.1 S.2.1 dL_same_603 (by decide) ?_
                  exact ih _ _ _ _ _ _ _ _ hR hS _ (lv_sub hl [1, 2, 3, 4, 5, 6, 7, 8, 9, 0] rfl) hF
                · replace hF := z_cf hF hc235
                  refine lv_iconst (v := 0) S.1 S.2.1 dL_same_598 (by decide) ?_
                  exact z_zretc S hr hlk hR hS (by decide) hF dL_same_599
          · replace hF := z_cf hF hc224
            refine lv_aload_n S.1 S.2.1 dL_same_448 rfl (lv_at hl 4 rfl) ?_
            refine lv_iload S.1 S.2.1 dL_same_449 (lv_at hl 10 rfl) ?_
            refine lv_bipush (v := 7) S.1 S.2.1 dL_same_451 (by decide) ?_
            refine lv_iadd S.1 S.2.1 dL_same_453 ?_
            refine z_iald (k := 27) (i := 0) (n := 48) S hK hR hF (by decide) rfl dL_same_454 (fun hF => ?_)
            refine lv_aload_n S.1 S.2.1 dL_same_455 rfl (lv_at hl 4 rfl) ?_
            refine lv_bipush (v := 12) S.1 S.2.1 dL_same_456 (by decide) ?_
            refine lv_iload S.1 S.2.1 dL_same_458 (lv_at hl 8 rfl) ?_
            refine lv_imul S.1 S.2.1 dL_same_460 ?_
            refine lv_bipush (v := 7) S.1 S.2.1 dL_same_461 (by decide) ?_
            refine lv_iadd S.1 S.2.1 dL_same_463 ?_
            refine z_iald (k := 27) (i := 0) (n := 48) S hK hR hF (by decide) rfl dL_same_464 (fun hF => ?_)
            refine lv_icmp_le (tgt := 473) S.1 S.2.1 dL_same_465 (by decide) (fun hc237 => ?_) (fun hc237 => ?_)
            · replace hF := z_ct hF hc237
              refine lv_iload S.1 S.2.1 dL_same_473 (lv_at hl 8 rfl) ?_
              refine lv_istore (lv' := [(8, .int a8), (7, .int v223), (5, .int v222), (0, .ref (g.1 0 0)), (1, .ref (g.1 26 0)), (2, .ref (g.1 27 0)), (3, .ref (g.1 28 0)), (4, .ref (g.1 29 0)), (6, .int v219), (9, .int a9), (10, .int v22), (11, .int 1), (12, .int v215), (13, .int v216), (14, .int v220), (15, .int v221)]) S.1 S.2.1 dL_same_475 hl (by decide) rfl (fun ls hl => ?_)
              refine lv_iconst (v := 0) S.1 S.2.1 dL_same_477 (by decide) ?_
              refine lv_istore (lv' := [(15, .int 0), (8, .int a8), (7, .int v223), (5, .int v222), (0, .ref (g.1 0 0)), (1, .ref (g.1 26 0)), (2, .ref (g.1 27 0)), (3, .ref (g.1 28 0)), (4, .ref (g.1 29 0)), (6, .int v219), (9, .int a9), (10, .int v22), (11, .int 1), (12, .int v215), (13, .int v216), (14, .int v220)]) S.1 S.2.1 dL_same_478 hl (by decide) rfl (fun ls hl => ?_)
              refine L480 _ _ _ _ _ _ _ _ _ _ _ (fun M238 v239 H locs hR hS ls hl hF => ?_) _ _ _ _ _ hR hS _ (lv_sub hl [4, 5, 6, 7, 8, 3, 9, 2, 1, 10, 11, 12, 13, 14, 15, 0] rfl) hF
              refine lv_aload_n S.1 S.2.1 dL_same_532 rfl (lv_at hl 0 rfl) ?_
              refine lv_iload S.1 S.2.1 dL_same_533 (lv_at hl 9 rfl) ?_
              refine lv_bipush (v := 9) S.1 S.2.1 dL_same_535 (by decide) ?_
              refine z_goi hS hF (fun _ _ ho => va_runV (C := RX6) (n := 2) (As := [.int a9, .int 9]) (rest := []) S (kX6_kite l hg ho) (cwV 2 S.2.2.2.2 (zgV wm_L_40 oX6_kite) rfl rfl rfl hX6_kite ⟨Nat.le_of_ble_eq_true rfl, Nat.le_of_ble_eq_true rfl⟩) ⟨zPc_blind, z_recv hK hR (by decide) rfl rfl, z_pre hK hR⟩ rfl rfl hl.1 rfl (lv_room (Nat.le_of_ble_eq_true rfl)) dL_same_537 ⟨Nat.zero_le _, Nat.zero_le _⟩) (fun r241 M240 H locs hR hS hF => ?_)
              refine lv_iload S.1 S.2.1 dL_same_540 (lv_at hl 11 rfl) ?_
              refine lv_if_eq (tgt := 550) S.1 S.2.1 dL_same_542 (by decide) (fun hc => absurd hc (by decide)) (fun _ => ?_)
              refine lv_iload S.1 S.2.1 dL_same_545 (lv_at hl 12 rfl) ?_
              refine lv_goto (tgt := 551) S.1 S.2.1 dL_same_547 (by decide) ?_
              refine lv_icmp_ne (tgt := 598) S.1 S.2.1 dL_same_551 (by decide) (fun hc242 => ?_) (fun hc242 => ?_)
              · replace hF := z_cf hF hc242
                refine lv_iconst (v := 0) S.1 S.2.1 dL_same_598 (by decide) ?_
                exact z_zretc S hr hlk hR hS (by decide) hF dL_same_599
              · replace hF := z_ct hF hc242
                refine lv_aload_n S.1 S.2.1 dL_same_554 rfl (lv_at hl 0 rfl) ?_
                refine lv_iload S.1 S.2.1 dL_same_555 (lv_at hl 9 rfl) ?_
                refine lv_bipush (v := 10) S.1 S.2.1 dL_same_557 (by decide) ?_
                refine z_goi hS hF (fun _ _ ho => va_runV (C := RX6) (n := 2) (As := [.int a9, .int 10]) (rest := []) S (kX6_kite l hg ho) (cwV 2 S.2.2.2.2 (zgV wm_L_40 oX6_kite) rfl rfl rfl hX6_kite ⟨Nat.le_of_ble_eq_true rfl, Nat.le_of_ble_eq_true rfl⟩) ⟨zPc_blind, z_recv hK hR (by decide) rfl rfl, z_pre hK hR⟩ rfl rfl hl.1 rfl (lv_room (Nat.le_of_ble_eq_true rfl)) dL_same_559 ⟨Nat.zero_le _, Nat.zero_le _⟩) (fun r244 M243 H locs hR hS hF => ?_)
                refine lv_iload S.1 S.2.1 dL_same_562 (lv_at hl 11 rfl) ?_
                refine lv_if_eq (tgt := 572) S.1 S.2.1 dL_same_564 (by decide) (fun hc => absurd hc (by decide)) (fun _ => ?_)
                refine lv_iload S.1 S.2.1 dL_same_567 (lv_at hl 13 rfl) ?_
                refine lv_goto (tgt := 573) S.1 S.2.1 dL_same_569 (by decide) ?_
                refine lv_icmp_ne (tgt := 598) S.1 S.2.1 dL_same_573 (by decide) (fun hc245 => ?_) (fun hc245 => ?_)
                · replace hF := z_cf hF hc245
                  refine lv_iconst (v := 0) S.1 S.2.1 dL_same_598 (by decide) ?_
                  exact z_zretc S hr hlk hR hS (by decide) hF dL_same_599
                · replace hF := z_ct hF hc245
                  refine lv_aload_n S.1 S.2.1 dL_same_576 rfl (lv_at hl 0 rfl) ?_
                  refine lv_iload S.1 S.2.1 dL_same_577 (lv_at hl 9 rfl) ?_
                  refine lv_bipush (v := 11) S.1 S.2.1 dL_same_579 (by decide) ?_
                  refine z_goi hS hF (fun _ _ ho => va_runV (C := RX6) (n := 2) (As := [.int a9, .int 11]) (rest := []) S (kX6_kite l hg ho) (cwV 2 S.2.2.2.2 (zgV wm_L_40 oX6_kite) rfl rfl rfl hX6_kite ⟨Nat.le_of_ble_eq_true rfl, Nat.le_of_ble_eq_true rfl⟩) ⟨zPc_blind, z_recv hK hR (by decide) rfl rfl, z_pre hK hR⟩ rfl rfl hl.1 rfl (lv_room (Nat.le_of_ble_eq_true rfl)) dL_same_581 ⟨Nat.zero_le _, Nat.zero_le _⟩) (fun r247 M246 H locs hR hS hF => ?_)
                  refine lv_iload S.1 S.2.1 dL_same_584 (lv_at hl 11 rfl) ?_
                  refine lv_if_eq (tgt := 594) S.1 S.2.1 dL_same_586 (by decide) (fun hc => absurd hc (by decide)) (fun _ => ?_)
                  refine lv_iload S.1 S.2.1 dL_same_589 (lv_at hl 14 rfl) ?_
                  refine lv_goto (tgt := 595) S.1 S.2.1 dL_same_591 (by decide) ?_
                  refine lv_icmp_eq (tgt := 600) S.1 S.2.1 dL_same_595 (by decide) (fun hc248 => ?_) (fun hc248 => ?_)
                  · replace hF := z_ct hF hc248
                    obtain ⟨v249, ev249, hF⟩ := zL_out hF
                    refine lv_iinc (v := v249) (lv' := [(9, .int v249), (0, .ref (g.1 0 0)), (1, .ref (g.1 26 0)), (2, .ref (g.1 27 0)), (3, .ref (g.1 28 0)), (4, .ref (g.1 29 0)), (5, .int v222), (6, .int v219), (7, .int v223), (8, .int a8), (10, .int v22), (11, .int 1), (12, .int v215), (13, .int v216), (14, .int v220), (15, .int v239)]) S.1 S.2.1 dL_same_600 hl (k := 9) rfl (by rw [← ev249]; rfl) (by decide) rfl (fun ls hl => ?_)
                    refine lv_goto (tgt := 16) S.1 S.2.1 dL_same_603 (by decide) ?_
                    exact ih _ _ _ _ _ _ _ _ hR hS _ (lv_sub hl [1, 2, 3, 4, 5, 6, 7, 8, 9, 0] rfl) hF
                  · replace hF := z_cf hF hc248
                    refine lv_iconst (v := 0) S.1 S.2.1 dL_same_598 (by decide) ?_
                    exact z_zretc S hr hlk hR hS (by decide) hF dL_same_599
            · replace hF := z_cf hF hc237
              refine lv_iload S.1 S.2.1 dL_same_468 (lv_at hl 9 rfl) ?_
              refine lv_goto (tgt := 475) S.1 S.2.1 dL_same_470 (by decide) ?_
              refine lv_istore (lv' := [(8, .int a9), (7, .int v223), (5, .int v222), (0, .ref (g.1 0 0)), (1, .ref (g.1 26 0)), (2, .ref (g.1 27 0)), (3, .ref (g.1 28 0)), (4, .ref (g.1 29 0)), (6, .int v219), (9, .int a9), (10, .int v22), (11, .int 1), (12, .int v215), (13, .int v216), (14, .int v220), (15, .int v221)]) S.1 S.2.1 dL_same_475 hl (by decide) rfl (fun ls hl => ?_)
              refine lv_iconst (v := 0) S.1 S.2.1 dL_same_477 (by decide) ?_
              refine lv_istore (lv' := [(15, .int 0), (8, .int a9), (7, .int v223), (5, .int v222), (0, .ref (g.1 0 0)), (1, .ref (g.1 26 0)), (2, .ref (g.1 27 0)), (3, .ref (g.1 28 0)), (4, .ref (g.1 29 0)), (6, .int v219), (9, .int a9), (10, .int v22), (11, .int 1), (12, .int v215), (13, .int v216), (14, .int v220)]) S.1 S.2.1 dL_same_478 hl (by decide) rfl (fun ls hl => ?_)
              refine L480 _ _ _ _ _ _ _ _ _ _ _ (fun M250 v251 H locs hR hS ls hl hF => ?_) _ _ _ _ _ hR hS _ (lv_sub hl [4, 5, 6, 7, 8, 3, 9, 2, 1, 10, 11, 12, 13, 14, 15, 0] rfl) hF
              refine lv_aload_n S.1 S.2.1 dL_same_532 rfl (lv_at hl 0 rfl) ?_
              refine lv_iload S.1 S.2.1 dL_same_533 (lv_at hl 9 rfl) ?_
              refine lv_bipush (v := 9) S.1 S.2.1 dL_same_535 (by decide) ?_
              refine z_goi hS hF (fun _ _ ho => va_runV (C := RX6) (n := 2) (As := [.int a9, .int 9]) (rest := []) S (kX6_kite l hg ho) (cwV 2 S.2.2.2.2 (zgV wm_L_40 oX6_kite) rfl rfl rfl hX6_kite ⟨Nat.le_of_ble_eq_true rfl, Nat.le_of_ble_eq_true rfl⟩) ⟨zPc_blind, z_recv hK hR (by decide) rfl rfl, z_pre hK hR⟩ rfl rfl hl.1 rfl (lv_room (Nat.le_of_ble_eq_true rfl)) dL_same_537 ⟨Nat.zero_le _, Nat.zero_le _⟩) (fun r253 M252 H locs hR hS hF => ?_)
              refine lv_iload S.1 S.2.1 dL_same_540 (lv_at hl 11 rfl) ?_
              refine lv_if_eq (tgt := 550) S.1 S.2.1 dL_same_542 (by decide) (fun hc => absurd hc (by decide)) (fun _ => ?_)
              refine lv_iload S.1 S.2.1 dL_same_545 (lv_at hl 12 rfl) ?_
              refine lv_goto (tgt := 551) S.1 S.2.1 dL_same_547 (by decide) ?_
              refine lv_icmp_ne (tgt := 598) S.1 S.2.1 dL_same_551 (by decide) (fun hc254 => ?_) (fun hc254 => ?_)
              · replace hF := z_cf hF hc254
                refine lv_iconst (v := 0) S.1 S.2.1 dL_same_598 (by decide) ?_
                exact z_zretc S hr hlk hR hS (by decide) hF dL_same_599
              · replace hF := z_ct hF hc254
                refine lv_aload_n S.1 S.2.1 dL_same_554 rfl (lv_at hl 0 rfl) ?_
                refine lv_iload S.1 S.2.1 dL_same_555 (lv_at hl 9 rfl) ?_
                refine lv_bipush (v := 10) S.1 S.2.1 dL_same_557 (by decide) ?_
                refine z_goi hS hF (fun _ _ ho => va_runV (C := RX6) (n := 2) (As := [.int a9, .int 10]) (rest := []) S (kX6_kite l hg ho) (cwV 2 S.2.2.2.2 (zgV wm_L_40 oX6_kite) rfl rfl rfl hX6_kite ⟨Nat.le_of_ble_eq_true rfl, Nat.le_of_ble_eq_true rfl⟩) ⟨zPc_blind, z_recv hK hR (by decide) rfl rfl, z_pre hK hR⟩ rfl rfl hl.1 rfl (lv_room (Nat.le_of_ble_eq_true rfl)) dL_same_559 ⟨Nat.zero_le _, Nat.zero_le _⟩) (fun r256 M255 H locs hR hS hF => ?_)
                refine lv_iload S.1 S.2.1 dL_same_562 (lv_at hl 11 rfl) ?_
                refine lv_if_eq (tgt := 572) S.1 S.2.1 dL_same_564 (by decide) (fun hc => absurd hc (by decide)) (fun _ => ?_)
                refine lv_iload S.1 S.2.1 dL_same_567 (lv_at hl 13 rfl) ?_
                refine lv_goto (tgt := 573) S.1 S.2.1 dL_same_569 (by decide) ?_
                refine lv_icmp_ne (tgt := 598) S.1 S.2.1 dL_same_573 (by decide) (fun hc257 => ?_) (fun hc257 => ?_)
                · replace hF := z_cf hF hc257
                  refine lv_iconst (v := 0) S.1 S.2.1 dL_same_598 (by decide) ?_
                  exact z_zretc S hr hlk hR hS (by decide) hF dL_same_599
                · replace hF := z_ct hF hc257
                  refine lv_aload_n S.1 S.2.1 dL_same_576 rfl (lv_at hl 0 rfl) ?_
                  refine lv_iload S.1 S.2.1 dL_same_577 (lv_at hl 9 rfl) ?_
                  refine lv_bipush (v := 11) S.1 S.2.1 dL_same_579 (by decide) ?_
                  refine z_goi hS hF (fun _ _ ho => va_runV (C := RX6) (n := 2) (As := [.int a9, .int 11]) (rest := []) S (kX6_kite l hg ho) (cwV 2 S.2.2.2.2 (zgV wm_L_40 oX6_kite) rfl rfl rfl hX6_kite ⟨Nat.le_of_ble_eq_true rfl, Nat.le_of_ble_eq_true rfl⟩) ⟨zPc_blind, z_recv hK hR (by decide) rfl rfl, z_pre hK hR⟩ rfl rfl hl.1 rfl (lv_room (Nat.le_of_ble_eq_true rfl)) dL_same_581 ⟨Nat.zero_le _, Nat.zero_le _⟩) (fun r259 M258 H locs hR hS hF => ?_)
                  refine lv_iload S.1 S.2.1 dL_same_584 (lv_at hl 11 rfl) ?_
                  refine lv_if_eq (tgt := 594) S.1 S.2.1 dL_same_586 (by decide) (fun hc => absurd hc (by decide)) (fun _ => ?_)
                  refine lv_iload S.1 S.2.1 dL_same_589 (lv_at hl 14 rfl) ?_
                  refine lv_goto (tgt := 595) S.1 S.2.1 dL_same_591 (by decide) ?_
                  refine lv_icmp_eq (tgt := 600) S.1 S.2.1 dL_same_595 (by decide) (fun hc260 => ?_) (fun hc260 => ?_)
                  · replace hF := z_ct hF hc260
                    obtain ⟨v261, ev261, hF⟩ := zL_out hF
                    refine lv_iinc (v := v261) (lv' := [(9, .int v261), (0, .ref (g.1 0 0)), (1, .ref (g.1 26 0)), (2, .ref (g.1 27 0)), (3, .ref (g.1 28 0)), (4, .ref (g.1 29 0)), (5, .int v222), (6, .int v219), (7, .int v223), (8, .int a9), (10, .int v22), (11, .int 1), (12, .int v215), (13, .int v216), (14, .int v220), (15, .int v251)]) S.1 S.2.1 dL_same_600 hl (k := 9) rfl (by rw [← ev261]; rfl) (by decide) rfl (fun ls hl => ?_)
                    refine lv_goto (tgt := 16) S.1 S.2.1 dL_same_603 (by decide) ?_
                    exact ih _ _ _ _ _ _ _ _ hR hS _ (lv_sub hl [1, 2, 3, 4, 5, 6, 7, 8, 9, 0] rfl) hF
                  · replace hF := z_cf hF hc260
                    refine lv_iconst (v := 0) S.1 S.2.1 dL_same_598 (by decide) ?_
                    exact z_zretc S hr hlk hR hS (by decide) hF dL_same_599
  unfold fL_same at hF
  refine lv_iconst (v := 0) S.1 S.2.1 dL_same_0 (by decide) ?_
  refine lv_istore (lv' := [(5, .int 0), (0, .ref (g.1 0 0)), (1, .ref (g.1 26 0)), (2, .ref (g.1 27 0)), (3, .ref (g.1 28 0)), (4, .ref (g.1 29 0))]) S.1 S.2.1 dL_same_1 hl (by decide) rfl (fun ls hl => ?_)
  refine lv_iconst (v := 0) S.1 S.2.1 dL_same_3 (by decide) ?_
  refine lv_istore (lv' := [(6, .int 0), (5, .int 0), (0, .ref (g.1 0 0)), (1, .ref (g.1 26 0)), (2, .ref (g.1 27 0)), (3, .ref (g.1 28 0)), (4, .ref (g.1 29 0))]) S.1 S.2.1 dL_same_4 hl (by decide) rfl (fun ls hl => ?_)
  refine lv_iconst (v := 0) S.1 S.2.1 dL_same_6 (by decide) ?_
  refine lv_istore (lv' := [(7, .int 0), (6, .int 0), (5, .int 0), (0, .ref (g.1 0 0)), (1, .ref (g.1 26 0)), (2, .ref (g.1 27 0)), (3, .ref (g.1 28 0)), (4, .ref (g.1 29 0))]) S.1 S.2.1 dL_same_7 hl (by decide) rfl (fun ls hl => ?_)
  refine lv_bipush (v := (-6)) S.1 S.2.1 dL_same_9 (by decide) ?_
  refine lv_istore (lv' := [(8, .int (-6)), (7, .int 0), (6, .int 0), (5, .int 0), (0, .ref (g.1 0 0)), (1, .ref (g.1 26 0)), (2, .ref (g.1 27 0)), (3, .ref (g.1 28 0)), (4, .ref (g.1 29 0))]) S.1 S.2.1 dL_same_11 hl (by decide) rfl (fun ls hl => ?_)
  refine lv_iconst (v := 0) S.1 S.2.1 dL_same_13 (by decide) ?_
  refine lv_istore (lv' := [(9, .int 0), (8, .int (-6)), (7, .int 0), (6, .int 0), (5, .int 0), (0, .ref (g.1 0 0)), (1, .ref (g.1 26 0)), (2, .ref (g.1 27 0)), (3, .ref (g.1 28 0)), (4, .ref (g.1 29 0))]) S.1 S.2.1 dL_same_14 hl (by decide) rfl (fun ls hl => ?_)
  refine L16 _ (fun M262 v263 v264 v265 v266 v267 H locs hR hS ls hl hF => ?_) _ _ _ _ _ _ _ _ _ hR hS _ (lv_sub hl [5, 6, 7, 8, 9, 4, 3, 2, 1, 0] rfl) hF
  refine lv_aload_n S.1 S.2.1 dL_same_606 rfl (lv_at hl 0 rfl) ?_
  refine lv_iconst (v := 0) S.1 S.2.1 dL_same_607 (by decide) ?_
  refine z_goi hS hF (fun _ _ ho => va_runV (C := RX6) (n := 1) (As := [.int 0]) (rest := []) S (kX6_count l hg ho) (cwV 1 S.2.2.2.2 (zgV wm_L_43 oX6_count) rfl rfl rfl hX6_count ⟨Nat.le_of_ble_eq_true rfl, Nat.le_of_ble_eq_true rfl⟩) ⟨zPc_blind, z_recv hK hR (by decide) rfl rfl, z_pre hK hR⟩ rfl rfl hl.1 rfl (lv_room (Nat.le_of_ble_eq_true rfl)) dL_same_608 ⟨Nat.zero_le _, Nat.zero_le _⟩) (fun r269 M268 H locs hR hS hF => ?_)
  refine lv_aload_n S.1 S.2.1 dL_same_611 rfl (lv_at hl 1 rfl) ?_
  refine lv_iconst (v := 0) S.1 S.2.1 dL_same_612 (by decide) ?_
  refine z_iald (k := 26) (i := 0) (n := 4) S hK hR hF (by decide) rfl dL_same_613 (fun hF => ?_)
  refine lv_icmp_ne (tgt := 696) S.1 S.2.1 dL_same_614 (by decide) (fun hc270 => ?_) (fun hc270 => ?_)
  · replace hF := z_cf hF hc270
    refine lv_iconst (v := 0) S.1 S.2.1 dL_same_696 (by decide) ?_
    exact z_zretc S hr hlk hR hS (by decide) hF dL_same_697
  · replace hF := z_ct hF hc270
    refine lv_aload_n S.1 S.2.1 dL_same_617 rfl (lv_at hl 0 rfl) ?_
    refine lv_iconst (v := 1) S.1 S.2.1 dL_same_618 (by decide) ?_
    refine z_goi hS hF (fun _ _ ho => va_runV (C := RX6) (n := 1) (As := [.int 1]) (rest := []) S (kX6_count l hg ho) (cwV 1 S.2.2.2.2 (zgV wm_L_43 oX6_count) rfl rfl rfl hX6_count ⟨Nat.le_of_ble_eq_true rfl, Nat.le_of_ble_eq_true rfl⟩) ⟨zPc_blind, z_recv hK hR (by decide) rfl rfl, z_pre hK hR⟩ rfl rfl hl.1 rfl (lv_room (Nat.le_of_ble_eq_true rfl)) dL_same_619 ⟨Nat.zero_le _, Nat.zero_le _⟩) (fun r272 M271 H locs hR hS hF => ?_)
    refine lv_iload S.1 S.2.1 dL_same_622 (lv_at hl 5 rfl) ?_
    refine lv_icmp_ne (tgt := 696) S.1 S.2.1 dL_same_624 (by decide) (fun hc273 => ?_) (fun hc273 => ?_)
    · replace hF := z_cf hF hc273
      refine lv_iconst (v := 0) S.1 S.2.1 dL_same_696 (by decide) ?_
      exact z_zretc S hr hlk hR hS (by decide) hF dL_same_697
    · replace hF := z_ct hF hc273
      refine lv_aload_n S.1 S.2.1 dL_same_627 rfl (lv_at hl 0 rfl) ?_
      refine lv_iconst (v := 2) S.1 S.2.1 dL_same_628 (by decide) ?_
      refine z_goi hS hF (fun _ _ ho => va_runV (C := RX6) (n := 1) (As := [.int 2]) (rest := []) S (kX6_count l hg ho) (cwV 1 S.2.2.2.2 (zgV wm_L_43 oX6_count) rfl rfl rfl hX6_count ⟨Nat.le_of_ble_eq_true rfl, Nat.le_of_ble_eq_true rfl⟩) ⟨zPc_blind, z_recv hK hR (by decide) rfl rfl, z_pre hK hR⟩ rfl rfl hl.1 rfl (lv_room (Nat.le_of_ble_eq_true rfl)) dL_same_629 ⟨Nat.zero_le _, Nat.zero_le _⟩) (fun r275 M274 H locs hR hS hF => ?_)
      refine lv_iload S.1 S.2.1 dL_same_632 (lv_at hl 6 rfl) ?_
      refine lv_icmp_ne (tgt := 696) S.1 S.2.1 dL_same_634 (by decide) (fun hc276 => ?_) (fun hc276 => ?_)
      · replace hF := z_cf hF hc276
        refine lv_iconst (v := 0) S.1 S.2.1 dL_same_696 (by decide) ?_
        exact z_zretc S hr hlk hR hS (by decide) hF dL_same_697
      · replace hF := z_ct hF hc276
        refine lv_aload_n S.1 S.2.1 dL_same_637 rfl (lv_at hl 0 rfl) ?_
        refine lv_iconst (v := 3) S.1 S.2.1 dL_same_638 (by decide) ?_
        refine z_goi hS hF (fun _ _ ho => va_runV (C := RX6) (n := 1) (As := [.int 3]) (rest := []) S (kX6_count l hg ho) (cwV 1 S.2.2.2.2 (zgV wm_L_43 oX6_count) rfl rfl rfl hX6_count ⟨Nat.le_of_ble_eq_true rfl, Nat.le_of_ble_eq_true rfl⟩) ⟨zPc_blind, z_recv hK hR (by decide) rfl rfl, z_pre hK hR⟩ rfl rfl hl.1 rfl (lv_room (Nat.le_of_ble_eq_true rfl)) dL_same_639 ⟨Nat.zero_le _, Nat.zero_le _⟩) (fun r278 M277 H locs hR hS hF => ?_)
        refine lv_aload_n S.1 S.2.1 dL_same_642 rfl (lv_at hl 1 rfl) ?_
        refine lv_iconst (v := 2) S.1 S.2.1 dL_same_643 (by decide) ?_
        refine z_iald (k := 26) (i := 0) (n := 4) S hK hR hF (by decide) rfl dL_same_644 (fun hF => ?_)
        refine lv_icmp_ne (tgt := 696) S.1 S.2.1 dL_same_645 (by decide) (fun hc279 => ?_) (fun hc279 => ?_)
        · replace hF := z_cf hF hc279
          refine lv_iconst (v := 0) S.1 S.2.1 dL_same_696 (by decide) ?_
          exact z_zretc S hr hlk hR hS (by decide) hF dL_same_697
        · replace hF := z_ct hF hc279
          refine lv_aload_n S.1 S.2.1 dL_same_648 rfl (lv_at hl 0 rfl) ?_
          refine lv_iconst (v := 4) S.1 S.2.1 dL_same_649 (by decide) ?_
          refine z_goi hS hF (fun _ _ ho => va_runV (C := RX6) (n := 1) (As := [.int 4]) (rest := []) S (kX6_count l hg ho) (cwV 1 S.2.2.2.2 (zgV wm_L_43 oX6_count) rfl rfl rfl hX6_count ⟨Nat.le_of_ble_eq_true rfl, Nat.le_of_ble_eq_true rfl⟩) ⟨zPc_blind, z_recv hK hR (by decide) rfl rfl, z_pre hK hR⟩ rfl rfl hl.1 rfl (lv_room (Nat.le_of_ble_eq_true rfl)) dL_same_650 ⟨Nat.zero_le _, Nat.zero_le _⟩) (fun r281 M280 H locs hR hS hF => ?_)
          refine lv_aload_n S.1 S.2.1 dL_same_653 rfl (lv_at hl 1 rfl) ?_
          refine lv_iconst (v := 1) S.1 S.2.1 dL_same_654 (by decide) ?_
          refine z_iald (k := 26) (i := 0) (n := 4) S hK hR hF (by decide) rfl dL_same_655 (fun hF => ?_)
          refine lv_icmp_ne (tgt := 696) S.1 S.2.1 dL_same_656 (by decide) (fun hc282 => ?_) (fun hc282 => ?_)
          · replace hF := z_cf hF hc282
            refine lv_iconst (v := 0) S.1 S.2.1 dL_same_696 (by decide) ?_
            exact z_zretc S hr hlk hR hS (by decide) hF dL_same_697
          · replace hF := z_ct hF hc282
            refine lv_aload_n S.1 S.2.1 dL_same_659 rfl (lv_at hl 0 rfl) ?_
            refine lv_iconst (v := 5) S.1 S.2.1 dL_same_660 (by decide) ?_
            refine z_goi hS hF (fun _ _ ho => va_runV (C := RX6) (n := 1) (As := [.int 5]) (rest := []) S (kX6_count l hg ho) (cwV 1 S.2.2.2.2 (zgV wm_L_43 oX6_count) rfl rfl rfl hX6_count ⟨Nat.le_of_ble_eq_true rfl, Nat.le_of_ble_eq_true rfl⟩) ⟨zPc_blind, z_recv hK hR (by decide) rfl rfl, z_pre hK hR⟩ rfl rfl hl.1 rfl (lv_room (Nat.le_of_ble_eq_true rfl)) dL_same_661 ⟨Nat.zero_le _, Nat.zero_le _⟩) (fun r284 M283 H locs hR hS hF => ?_)
            refine lv_iload S.1 S.2.1 dL_same_664 (lv_at hl 8 rfl) ?_
            refine lv_icmp_ne (tgt := 696) S.1 S.2.1 dL_same_666 (by decide) (fun hc285 => ?_) (fun hc285 => ?_)
            · replace hF := z_cf hF hc285
              refine lv_iconst (v := 0) S.1 S.2.1 dL_same_696 (by decide) ?_
              exact z_zretc S hr hlk hR hS (by decide) hF dL_same_697
            · replace hF := z_ct hF hc285
              refine lv_aload_n S.1 S.2.1 dL_same_669 rfl (lv_at hl 0 rfl) ?_
              refine lv_bipush (v := 6) S.1 S.2.1 dL_same_670 (by decide) ?_
              refine z_goi hS hF (fun _ _ ho => va_runV (C := RX6) (n := 1) (As := [.int 6]) (rest := []) S (kX6_count l hg ho) (cwV 1 S.2.2.2.2 (zgV wm_L_43 oX6_count) rfl rfl rfl hX6_count ⟨Nat.le_of_ble_eq_true rfl, Nat.le_of_ble_eq_true rfl⟩) ⟨zPc_blind, z_recv hK hR (by decide) rfl rfl, z_pre hK hR⟩ rfl rfl hl.1 rfl (lv_room (Nat.le_of_ble_eq_true rfl)) dL_same_672 ⟨Nat.zero_le _, Nat.zero_le _⟩) (fun r287 M286 H locs hR hS hF => ?_)
              refine lv_iload S.1 S.2.1 dL_same_675 (lv_at hl 7 rfl) ?_
              refine lv_icmp_ne (tgt := 696) S.1 S.2.1 dL_same_677 (by decide) (fun hc288 => ?_) (fun hc288 => ?_)
              · replace hF := z_cf hF hc288
                refine lv_iconst (v := 0) S.1 S.2.1 dL_same_696 (by decide) ?_
                exact z_zretc S hr hlk hR hS (by decide) hF dL_same_697
              · replace hF := z_ct hF hc288
                refine lv_aload_n S.1 S.2.1 dL_same_680 rfl (lv_at hl 0 rfl) ?_
                refine lv_bipush (v := 7) S.1 S.2.1 dL_same_681 (by decide) ?_
                refine z_goi hS hF (fun _ _ ho => va_runV (C := RX6) (n := 1) (As := [.int 7]) (rest := []) S (kX6_count l hg ho) (cwV 1 S.2.2.2.2 (zgV wm_L_43 oX6_count) rfl rfl rfl hX6_count ⟨Nat.le_of_ble_eq_true rfl, Nat.le_of_ble_eq_true rfl⟩) ⟨zPc_blind, z_recv hK hR (by decide) rfl rfl, z_pre hK hR⟩ rfl rfl hl.1 rfl (lv_room (Nat.le_of_ble_eq_true rfl)) dL_same_683 ⟨Nat.zero_le _, Nat.zero_le _⟩) (fun r290 M289 H locs hR hS hF => ?_)
                refine lv_aload_n S.1 S.2.1 dL_same_686 rfl (lv_at hl 1 rfl) ?_
                refine lv_iconst (v := 3) S.1 S.2.1 dL_same_687 (by decide) ?_
                refine z_iald (k := 26) (i := 0) (n := 4) S hK hR hF (by decide) rfl dL_same_688 (fun hF => ?_)
                refine lv_icmp_ne (tgt := 696) S.1 S.2.1 dL_same_689 (by decide) (fun hc291 => ?_) (fun hc291 => ?_)
                · replace hF := z_cf hF hc291
                  refine lv_iconst (v := 0) S.1 S.2.1 dL_same_696 (by decide) ?_
                  exact z_zretc S hr hlk hR hS (by decide) hF dL_same_697
                · replace hF := z_ct hF hc291
                  refine lv_iconst (v := 1) S.1 S.2.1 dL_same_692 (by decide) ?_
                  refine lv_goto (tgt := 697) S.1 S.2.1 dL_same_693 (by decide) ?_
                  exact z_zretc S hr hlk hR hS (by decide) hF dL_same_697
theorem hL_would : yL_would.cls = RL ∧ yL_would.cls ≠ "java/lang/invoke/MethodHandle" ∧ yL_would.cls ≠ "java/lang/invoke/VarHandle" ∧ (parseMethodDescriptor yL_would.desc).map (fun d => d.parameters.length) = some 11 := by decide +kernel
theorem oL_would : Cond.static yL_would ∈ zT ∧ Cond.initialized RL ∈ zT ∧ Cond.code yL_would cL_would 23 (some .boolean) ∈ zT := ⟨ws_L_would, wi_L, wk_L_would⟩
set_option maxRecDepth 100000 in
set_option maxHeartbeats 4000000 in
theorem kL_would (l : Launch) {g : zGeo} {z : Nat} (hg : zAd g z) {M M' : zM} {v1 : Int32} {r : Int32} (hF : fL_would M v1 = some (r, M')) : Met l yL_would [.code yL_would cL_would 23 (some .boolean)] { frames := 7, cells := 0, slots := 0, locals := 158 } (zPc g M [.ref (g.1 0 0), .int v1, .ref (g.1 26 0), .ref (g.1 27 0), .ref (g.1 28 0), .ref (g.1 29 0), .ref (g.1 30 0), .ref (g.1 31 0), .ref (g.1 32 0), .ref (g.1 33 0), .ref (g.1 34 0)]) (zQi g z r M') 0 0 (zS z) := by
  refine z_enter (cc := cL_would) (maxL := 23) (ret := (some .boolean)) (by decide) rfl (Nat.le_of_ble_eq_true rfl) ?_
  intro p e s m below meth c S hr hlk hK hR hS ls hl
  have S : CallFix p m c cL_would 23 s _ zT RL := S
  have hl : lv_has ls 23 [(0, .ref (g.1 0 0)), (1, .int v1), (2, .ref (g.1 26 0)), (3, .ref (g.1 27 0)), (4, .ref (g.1 28 0)), (5, .ref (g.1 29 0)), (6, .ref (g.1 30 0)), (7, .ref (g.1 31 0)), (8, .ref (g.1 32 0)), (9, .ref (g.1 33 0)), (10, .ref (g.1 34 0))] := hl
  have L246 : ∀ (k : zM → Int32 → Int32 → Option (Int32 × zM)) (a11 : Int32) (a12 : Int32) (a13 : Int32) (a14 : Int32) (a15 : Int32) (a16 : Int32) (a17 : Int32) (a18 : Int32) (a20 : Int32), (∀ (M : zM) (a19 : Int32) (a22 : Int32) (H : Heap) (locs : List Loc), zR g M H → va_S (zS z) s.heap H locs → ∀ ls : Array Slot, lv_has ls 23 [(0, .ref (g.1 0 0)), (2, .ref (g.1 26 0)), (3, .ref (g.1 27 0)), (6, .ref (g.1 30 0)), (7, .ref (g.1 31 0)), (8, .ref (g.1 32 0)), (9, .ref (g.1 33 0)), (10, .ref (g.1 34 0)), (11, .int a11), (12, .int a12), (13, .int a13), (14, .int a14), (15, .int a15), (16, .int a16), (17, .int a17), (18, .int a18), (19, .int a19), (20, .int a20), (22, .int a22)] → k M a19 a22 = some (r, M') → W p l e { frames := 7, cells := 0, slots := 0, locals := 158 } s m ([.ref (g.1 0 0), .int v1, .ref (g.1 26 0), .ref (g.1 27 0), .ref (g.1 28 0), .ref (g.1 29 0), .ref (g.1 30 0), .ref (g.1 31 0), .ref (g.1 32 0), .ref (g.1 33 0), .ref (g.1 34 0)] : List Value).toArray below meth c H locs 0 0 (MQ below (zQi g z r M') ([.ref (g.1 0 0), .int v1, .ref (g.1 26 0), .ref (g.1 27 0), .ref (g.1 28 0), .ref (g.1 29 0), .ref (g.1 30 0), .ref (g.1 31 0), .ref (g.1 32 0), .ref (g.1 33 0), .ref (g.1 34 0)] : List Value).toArray s 0 0 (zS z)) (F0 m 287 ls [])) → ∀ (n : Nat) (M : zM) (a19 : Int32) (a22 : Int32) (H : Heap) (locs : List Loc), zR g M H → va_S (zS z) s.heap H locs → ∀ ls : Array Slot, lv_has ls 23 [(0, .ref (g.1 0 0)), (2, .ref (g.1 26 0)), (3, .ref (g.1 27 0)), (6, .ref (g.1 30 0)), (7, .ref (g.1 31 0)), (8, .ref (g.1 32 0)), (9, .ref (g.1 33 0)), (10, .ref (g.1 34 0)), (11, .int a11), (12, .int a12), (13, .int a13), (14, .int a14), (15, .int a15), (16, .int a16), (17, .int a17), (18, .int a18), (19, .int a19), (20, .int a20), (22, .int a22)] → fL_would_L246 k a11 a12 a13 a14 a15 a16 a17 a18 a20 n M a19 a22 = some (r, M') → W p l e { frames := 7, cells := 0, slots := 0, locals := 158 } s m ([.ref (g.1 0 0), .int v1, .ref (g.1 26 0), .ref (g.1 27 0), .ref (g.1 28 0), .ref (g.1 29 0), .ref (g.1 30 0), .ref (g.1 31 0), .ref (g.1 32 0), .ref (g.1 33 0), .ref (g.1 34 0)] : List Value).toArray below meth c H locs 0 0 (MQ below (zQi g z r M') ([.ref (g.1 0 0), .int v1, .ref (g.1 26 0), .ref (g.1 27 0), .ref (g.1 28 0), .ref (g.1 29 0), .ref (g.1 30 0), .ref (g.1 31 0), .ref (g.1 32 0), .ref (g.1 33 0), .ref (g.1 34 0)] : List Value).toArray s 0 0 (zS z)) (F0 m 246 ls []) := by
    intro k a11 a12 a13 a14 a15 a16 a17 a18 a20 hk n
    induction n with
    | zero =>
      intro M a19 a22 H locs hR hS ls hl hF
      cases hF
    | succ n ih =>
      intro M a19 a22 H locs hR hS ls hl hF
      unfold fL_would_L246 at hF
      refine lv_iload S.1 S.2.1 dL_would_246 (lv_at hl 18 rfl) ?_
      refine lv_aload_n S.1 S.2.1 dL_would_248 rfl (lv_at hl 1 rfl) ?_
      refine lv_iconst (v := 0) S.1 S.2.1 dL_would_249 (by decide) ?_
      refine z_iald (k := 26) (i := 0) (n := 4) S hK hR hF (by decide) rfl dL_would_250 (fun hF => ?_)
      refine lv_icmp_ge (tgt := 287) S.1 S.2.1 dL_would_251 (by decide) (fun hc41 => ?_) (fun hc41 => ?_)
      · replace hF := z_ct hF hc41
        exact hk _ _ _ _ _ hR hS _ (lv_sub hl [0, 1, 2, 3, 4, 5, 6, 7, 8, 9, 10, 11, 12, 13, 14, 15, 16, 17, 18] rfl) hF
      · replace hF := z_cf hF hc41
        refine lv_iload S.1 S.2.1 dL_would_254 (lv_at hl 16 rfl) ?_
        refine lv_aload S.1 S.2.1 dL_would_256 (lv_at hl 5 rfl) ?_
        refine lv_bipush (v := 12) S.1 S.2.1 dL_would_258 (by decide) ?_
        refine lv_iload S.1 S.2.1 dL_would_260 (lv_at hl 18 rfl) ?_
        refine lv_imul S.1 S.2.1 dL_would_262 ?_
        refine lv_bipush (v := 7) S.1 S.2.1 dL_would_263 (by decide) ?_
        refine lv_iadd S.1 S.2.1 dL_would_265 ?_
        refine z_iald (k := 32) (i := 0) (n := 48) S hK hR hF (by decide) rfl dL_would_266 (fun hF => ?_)
        refine lv_aload_n S.1 S.2.1 dL_would_267 rfl (lv_at hl 2 rfl) ?_
        refine lv_bipush (v := 12) S.1 S.2.1 dL_would_268 (by decide) ?_
        refine lv_iload S.1 S.2.1 dL_would_270 (lv_at hl 18 rfl) ?_
        refine lv_imul S.1 S.2.1 dL_would_272 ?_
        refine lv_bipush (v := 7) S.1 S.2.1 dL_would_273 (by decide) ?_
        refine lv_iadd S.1 S.2.1 dL_would_275 ?_
        refine z_iald (k := 27) (i := 0) (n := 48) S hK hR hF (by decide) rfl dL_would_276 (fun hF => ?_)
        refine lv_isub S.1 S.2.1 dL_would_277 ?_
        refine lv_iadd S.1 S.2.1 dL_would_278 ?_
        refine z_nm hF (fun v42 hF => ?_)
        refine lv_istore (lv' := [(19, .int v42), (0, .ref (g.1 0 0)), (2, .ref (g.1 26 0)), (3, .ref (g.1 27 0)), (6, .ref (g.1 30 0)), (7, .ref (g.1 31 0)), (8, .ref (g.1 32 0)), (9, .ref (g.1 33 0)), (10, .ref (g.1 34 0)), (11, .int a11), (12, .int a12), (13, .int a13), (14, .int a14), (15, .int a15), (16, .int a16), (17, .int a17), (18, .int a18), (20, .int a20), (22, .int a22)]) S.1 S.2.1 dL_would_279 hl (by decide) rfl (fun ls hl => ?_)
        obtain ⟨v43, ev43, hF⟩ := zL_out hF
        refine lv_iinc (v := v43) (lv' := [(22, .int v43), (19, .int v42), (0, .ref (g.1 0 0)), (2, .ref (g.1 26 0)), (3, .ref (g.1 27 0)), (6, .ref (g.1 30 0)), (7, .ref (g.1 31 0)), (8, .ref (g.1 32 0)), (9, .ref (g.1 33 0)), (10, .ref (g.1 34 0)), (11, .int a11), (12, .int a12), (13, .int a13), (14, .int a14), (15, .int a15), (16, .int a16), (17, .int a17), (18, .int a18), (20, .int a20)]) S.1 S.2.1 dL_would_281 hl (k := 18) rfl (by rw [← ev43]; rfl) (by decide) rfl (fun ls hl => ?_)
        refine lv_goto (tgt := 246) S.1 S.2.1 dL_would_284 (by decide) ?_
        exact ih _ _ _ _ _ hR hS _ (lv_sub hl [2, 3, 4, 5, 6, 7, 8, 9, 10, 11, 12, 13, 14, 15, 16, 17, 1, 18, 0] rfl) hF
  have L144 : ∀ (k : zM → Int32 → Int32 → Int32 → Int32 → Int32 → Int32 → Option (Int32 × zM)) (a11 : Int32) (a12 : Int32) (a13 : Int32) (a17 : Int32), (∀ (M : zM) (a14 : Int32) (a15 : Int32) (a16 : Int32) (a18 : Int32) (a19 : Int32) (a20 : Int32) (H : Heap) (locs : List Loc), zR g M H → va_S (zS z) s.heap H locs → ∀ ls : Array Slot, lv_has ls 23 [(0, .ref (g.1 0 0)), (2, .ref (g.1 26 0)), (3, .ref (g.1 27 0)), (6, .ref (g.1 30 0)), (7, .ref (g.1 31 0)), (8, .ref (g.1 32 0)), (9, .ref (g.1 33 0)), (10, .ref (g.1 34 0)), (11, .int a11), (12, .int a12), (13, .int a13), (14, .int a14), (15, .int a15), (16, .int a16), (17, .int a17), (18, .int a18), (19, .int a19), (20, .int a20)] → k M a14 a15 a16 a18 a19 a20 = some (r, M') → W p l e { frames := 7, cells := 0, slots := 0, locals := 158 } s m ([.ref (g.1 0 0), .int v1, .ref (g.1 26 0), .ref (g.1 27 0), .ref (g.1 28 0), .ref (g.1 29 0), .ref (g.1 30 0), .ref (g.1 31 0), .ref (g.1 32 0), .ref (g.1 33 0), .ref (g.1 34 0)] : List Value).toArray below meth c H locs 0 0 (MQ below (zQi g z r M') ([.ref (g.1 0 0), .int v1, .ref (g.1 26 0), .ref (g.1 27 0), .ref (g.1 28 0), .ref (g.1 29 0), .ref (g.1 30 0), .ref (g.1 31 0), .ref (g.1 32 0), .ref (g.1 33 0), .ref (g.1 34 0)] : List Value).toArray s 0 0 (zS z)) (F0 m 293 ls [])) → ∀ (n : Nat) (M : zM) (a14 : Int32) (a15 : Int32) (a16 : Int32) (a18 : Int32) (a19 : Int32) (a20 : Int32) (H : Heap) (locs : List Loc), zR g M H → va_S (zS z) s.heap H locs → ∀ ls : Array Slot, lv_has ls 23 [(0, .ref (g.1 0 0)), (2, .ref (g.1 26 0)), (3, .ref (g.1 27 0)), (6, .ref (g.1 30 0)), (7, .ref (g.1 31 0)), (8, .ref (g.1 32 0)), (9, .ref (g.1 33 0)), (10, .ref (g.1 34 0)), (11, .int a11), (12, .int a12), (13, .int a13), (14, .int a14), (15, .int a15), (16, .int a16), (17, .int a17), (18, .int a18), (19, .int a19), (20, .int a20)] → fL_would_L144 k a11 a12 a13 a17 n M a14 a15 a16 a18 a19 a20 = some (r, M') → W p l e { frames := 7, cells := 0, slots := 0, locals := 158 } s m ([.ref (g.1 0 0), .int v1, .ref (g.1 26 0), .ref (g.1 27 0), .ref (g.1 28 0), .ref (g.1 29 0), .ref (g.1 30 0), .ref (g.1 31 0), .ref (g.1 32 0), .ref (g.1 33 0), .ref (g.1 34 0)] : List Value).toArray below meth c H locs 0 0 (MQ below (zQi g z r M') ([.ref (g.1 0 0), .int v1, .ref (g.1 26 0), .ref (g.1 27 0), .ref (g.1 28 0), .ref (g.1 29 0), .ref (g.1 30 0), .ref (g.1 31 0), .ref (g.1 32 0), .ref (g.1 33 0), .ref (g.1 34 0)] : List Value).toArray s 0 0 (zS z)) (F0 m 144 ls []) := by
    intro k a11 a12 a13 a17 hk n
    induction n with
    | zero =>
      intro M a14 a15 a16 a18 a19 a20 H locs hR hS ls hl hF
      cases hF
    | succ n ih =>
      intro M a14 a15 a16 a18 a19 a20 H locs hR hS ls hl hF
      unfold fL_would_L144 at hF
      have J236 : ∀ (M : zM) (a14 : Int32) (a15 : Int32) (a16 : Int32) (a18 : Int32) (a19 : Int32) (a20 : Int32) (H : Heap) (locs : List Loc), zR g M H → va_S (zS z) s.heap H locs → ∀ ls : Array Slot, lv_has ls 23 [(0, .ref (g.1 0 0)), (2, .ref (g.1 26 0)), (3, .ref (g.1 27 0)), (6, .ref (g.1 30 0)), (7, .ref (g.1 31 0)), (8, .ref (g.1 32 0)), (9, .ref (g.1 33 0)), (10, .ref (g.1 34 0)), (11, .int a11), (12, .int a12), (13, .int a13), (14, .int a14), (15, .int a15), (16, .int a16), (17, .int a17), (18, .int a18), (19, .int a19), (20, .int a20)] → fL_would_J236 (fL_would_L144 k a11 a12 a13 a17 n) k M a11 a12 a13 a14 a15 a16 a17 a18 a19 a20 = some (r, M') → W p l e { frames := 7, cells := 0, slots := 0, locals := 158 } s m ([.ref (g.1 0 0), .int v1, .ref (g.1 26 0), .ref (g.1 27 0), .ref (g.1 28 0), .ref (g.1 29 0), .ref (g.1 30 0), .ref (g.1 31 0), .ref (g.1 32 0), .ref (g.1 33 0), .ref (g.1 34 0)] : List Value).toArray below meth c H locs 0 0 (MQ below (zQi g z r M') ([.ref (g.1 0 0), .int v1, .ref (g.1 26 0), .ref (g.1 27 0), .ref (g.1 28 0), .ref (g.1 29 0), .ref (g.1 30 0), .ref (g.1 31 0), .ref (g.1 32 0), .ref (g.1 33 0), .ref (g.1 34 0)] : List Value).toArray s 0 0 (zS z)) (F0 m 236 ls []) := by
        intro M a14 a15 a16 a18 a19 a20 H locs hR hS ls hl hF
        unfold fL_would_J236 at hF
        refine lv_iload S.1 S.2.1 dL_would_236 (lv_at hl 17 rfl) ?_
        refine lv_iload S.1 S.2.1 dL_would_238 (lv_at hl 14 rfl) ?_
        refine lv_icmp_ne (tgt := 287) S.1 S.2.1 dL_would_240 (by decide) (fun hc39 => ?_) (fun hc39 => ?_)
        · replace hF := z_cf hF hc39
          obtain ⟨v40, ev40, hF⟩ := zL_out hF
          refine lv_iinc (v := v40) (lv' := [(20, .int v40), (0, .ref (g.1 0 0)), (2, .ref (g.1 26 0)), (3, .ref (g.1 27 0)), (6, .ref (g.1 30 0)), (7, .ref (g.1 31 0)), (8, .ref (g.1 32 0)), (9, .ref (g.1 33 0)), (10, .ref (g.1 34 0)), (11, .int a11), (12, .int a12), (13, .int a13), (14, .int a14), (15, .int a15), (16, .int a16), (17, .int a17), (18, .int a18), (19, .int a19)]) S.1 S.2.1 dL_would_287 hl (k := 17) rfl (by rw [← ev40]; rfl) (by decide) rfl (fun ls hl => ?_)
          refine lv_goto (tgt := 144) S.1 S.2.1 dL_would_290 (by decide) ?_
          exact ih _ _ _ _ _ _ _ _ _ hR hS _ (lv_sub hl [1, 2, 3, 4, 5, 6, 7, 8, 9, 10, 11, 12, 13, 14, 15, 16, 17, 0] rfl) hF
        · replace hF := z_ct hF hc39
          refine lv_iconst (v := 0) S.1 S.2.1 dL_would_243 (by decide) ?_
          refine lv_istore (lv' := [(22, .int 0), (0, .ref (g.1 0 0)), (2, .ref (g.1 26 0)), (3, .ref (g.1 27 0)), (6, .ref (g.1 30 0)), (7, .ref (g.1 31 0)), (8, .ref (g.1 32 0)), (9, .ref (g.1 33 0)), (10, .ref (g.1 34 0)), (11, .int a11), (12, .int a12), (13, .int a13), (14, .int a14), (15, .int a15), (16, .int a16), (17, .int a17), (18, .int a18), (19, .int a19), (20, .int a20)]) S.1 S.2.1 dL_would_244 hl (by decide) rfl (fun ls hl => ?_)
          refine L246 _ _ _ _ _ _ _ _ _ _ (fun M44 v45 v46 H locs hR hS ls hl hF => ?_) _ _ _ _ _ _ hR hS _ (lv_sub hl [1, 2, 3, 4, 5, 6, 7, 8, 9, 10, 11, 12, 13, 14, 15, 16, 17, 18, 0] rfl) hF
          obtain ⟨v47, ev47, hF⟩ := zL_out hF
          refine lv_iinc (v := v47) (lv' := [(20, .int v47), (0, .ref (g.1 0 0)), (2, .ref (g.1 26 0)), (3, .ref (g.1 27 0)), (6, .ref (g.1 30 0)), (7, .ref (g.1 31 0)), (8, .ref (g.1 32 0)), (9, .ref (g.1 33 0)), (10, .ref (g.1 34 0)), (11, .int a11), (12, .int a12), (13, .int a13), (14, .int a14), (15, .int a15), (16, .int a16), (17, .int a17), (18, .int a18), (19, .int v45), (22, .int v46)]) S.1 S.2.1 dL_would_287 hl (k := 17) rfl (by rw [← ev47]; rfl) (by decide) rfl (fun ls hl => ?_)
          refine lv_goto (tgt := 144) S.1 S.2.1 dL_would_290 (by decide) ?_
          exact ih _ _ _ _ _ _ _ _ _ hR hS _ (lv_sub hl [1, 2, 3, 4, 5, 6, 7, 8, 9, 10, 11, 12, 13, 14, 15, 16, 17, 0] rfl) hF
      have J215 : ∀ (M : zM) (a14 : Int32) (a15 : Int32) (a16 : Int32) (a18 : Int32) (a19 : Int32) (a20 : Int32) (a21 : Int32) (H : Heap) (locs : List Loc), zR g M H → va_S (zS z) s.heap H locs → ∀ ls : Array Slot, lv_has ls 23 [(0, .ref (g.1 0 0)), (2, .ref (g.1 26 0)), (3, .ref (g.1 27 0)), (6, .ref (g.1 30 0)), (7, .ref (g.1 31 0)), (8, .ref (g.1 32 0)), (9, .ref (g.1 33 0)), (10, .ref (g.1 34 0)), (11, .int a11), (12, .int a12), (13, .int a13), (14, .int a14), (15, .int a15), (16, .int a16), (17, .int a17), (18, .int a18), (19, .int a19), (20, .int a20), (21, .int a21)] → fL_would_J215 (fL_would_L144 k a11 a12 a13 a17 n) k M a11 a12 a13 a14 a15 a16 a17 a18 a19 a20 a21 = some (r, M') → W p l e { frames := 7, cells := 0, slots := 0, locals := 158 } s m ([.ref (g.1 0 0), .int v1, .ref (g.1 26 0), .ref (g.1 27 0), .ref (g.1 28 0), .ref (g.1 29 0), .ref (g.1 30 0), .ref (g.1 31 0), .ref (g.1 32 0), .ref (g.1 33 0), .ref (g.1 34 0)] : List Value).toArray below meth c H locs 0 0 (MQ below (zQi g z r M') ([.ref (g.1 0 0), .int v1, .ref (g.1 26 0), .ref (g.1 27 0), .ref (g.1 28 0), .ref (g.1 29 0), .ref (g.1 30 0), .ref (g.1 31 0), .ref (g.1 32 0), .ref (g.1 33 0), .ref (g.1 34 0)] : List Value).toArray s 0 0 (zS z)) (F0 m 215 ls []) := by
        intro M a14 a15 a16 a18 a19 a20 a21 H locs hR hS ls hl hF
        unfold fL_would_J215 at hF
        refine lv_iload S.1 S.2.1 dL_would_215 (lv_at hl 15 rfl) ?_
        refine lv_iload S.1 S.2.1 dL_would_217 (lv_at hl 17 rfl) ?_
        refine lv_iload S.1 S.2.1 dL_would_219 (lv_at hl 14 rfl) ?_
        refine lv_icmp_gt (tgt := 232) S.1 S.2.1 dL_would_221 (by decide) (fun hc37 => ?_) (fun hc37 => ?_)
        · replace hF := z_ct hF hc37
          refine lv_iconst (v := 0) S.1 S.2.1 dL_would_232 (by decide) ?_
          refine lv_ior S.1 S.2.1 dL_would_233 ?_
          refine z_nm hF (fun v38 hF => ?_)
          refine lv_istore (lv' := [(18, .int v38), (0, .ref (g.1 0 0)), (2, .ref (g.1 26 0)), (3, .ref (g.1 27 0)), (6, .ref (g.1 30 0)), (7, .ref (g.1 31 0)), (8, .ref (g.1 32 0)), (9, .ref (g.1 33 0)), (10, .ref (g.1 34 0)), (11, .int a11), (12, .int a12), (13, .int a13), (14, .int a14), (15, .int a15), (16, .int a16), (17, .int a17), (19, .int a19), (20, .int a20), (21, .int a21)]) S.1 S.2.1 dL_would_234 hl (by decide) rfl (fun ls hl => ?_)
          exact J236 _ _ _ _ _ _ _ _ _ hR hS _ (lv_sub hl [1, 2, 3, 4, 5, 6, 7, 8, 9, 10, 11, 12, 13, 14, 15, 0, 16, 17] rfl) hF
        · replace hF := z_cf hF hc37
          refine lv_iload S.1 S.2.1 dL_would_224 (lv_at hl 18 rfl) ?_
          refine lv_bipush (v := 100) S.1 S.2.1 dL_would_226 (by decide) ?_
          refine z_irem S.1 S.2.1 dL_would_228 (by decide) ?_
          refine lv_goto (tgt := 233) S.1 S.2.1 dL_would_229 (by decide) ?_
          refine lv_ior S.1 S.2.1 dL_would_233 ?_
          refine z_nm hF (fun v48 hF => ?_)
          refine lv_istore (lv' := [(18, .int v48), (0, .ref (g.1 0 0)), (2, .ref (g.1 26 0)), (3, .ref (g.1 27 0)), (6, .ref (g.1 30 0)), (7, .ref (g.1 31 0)), (8, .ref (g.1 32 0)), (9, .ref (g.1 33 0)), (10, .ref (g.1 34 0)), (11, .int a11), (12, .int a12), (13, .int a13), (14, .int a14), (15, .int a15), (16, .int a16), (17, .int a17), (19, .int a19), (20, .int a20), (21, .int a21)]) S.1 S.2.1 dL_would_234 hl (by decide) rfl (fun ls hl => ?_)
          exact J236 _ _ _ _ _ _ _ _ _ hR hS _ (lv_sub hl [1, 2, 3, 4, 5, 6, 7, 8, 9, 10, 11, 12, 13, 14, 15, 0, 16, 17] rfl) hF
      have J194 : ∀ (M : zM) (a14 : Int32) (a15 : Int32) (a16 : Int32) (a18 : Int32) (a19 : Int32) (a20 : Int32) (a21 : Int32) (H : Heap) (locs : List Loc), zR g M H → va_S (zS z) s.heap H locs → ∀ ls : Array Slot, lv_has ls 23 [(0, .ref (g.1 0 0)), (2, .ref (g.1 26 0)), (3, .ref (g.1 27 0)), (6, .ref (g.1 30 0)), (7, .ref (g.1 31 0)), (8, .ref (g.1 32 0)), (9, .ref (g.1 33 0)), (10, .ref (g.1 34 0)), (11, .int a11), (12, .int a12), (13, .int a13), (14, .int a14), (15, .int a15), (16, .int a16), (17, .int a17), (18, .int a18), (19, .int a19), (20, .int a20), (21, .int a21)] → fL_would_J194 (fL_would_L144 k a11 a12 a13 a17 n) k M a11 a12 a13 a14 a15 a16 a17 a18 a19 a20 a21 = some (r, M') → W p l e { frames := 7, cells := 0, slots := 0, locals := 158 } s m ([.ref (g.1 0 0), .int v1, .ref (g.1 26 0), .ref (g.1 27 0), .ref (g.1 28 0), .ref (g.1 29 0), .ref (g.1 30 0), .ref (g.1 31 0), .ref (g.1 32 0), .ref (g.1 33 0), .ref (g.1 34 0)] : List Value).toArray below meth c H locs 0 0 (MQ below (zQi g z r M') ([.ref (g.1 0 0), .int v1, .ref (g.1 26 0), .ref (g.1 27 0), .ref (g.1 28 0), .ref (g.1 29 0), .ref (g.1 30 0), .ref (g.1 31 0), .ref (g.1 32 0), .ref (g.1 33 0), .ref (g.1 34 0)] : List Value).toArray s 0 0 (zS z)) (F0 m 194 ls []) := by
        intro M a14 a15 a16 a18 a19 a20 a21 H locs hR hS ls hl hF
        unfold fL_would_J194 at hF
        refine lv_iload S.1 S.2.1 dL_would_194 (lv_at hl 12 rfl) ?_
        refine lv_if_ne (tgt := 215) S.1 S.2.1 dL_would_196 (by decide) (fun hc36 => ?_) (fun hc36 => ?_)
        · replace hF := z_cf hF hc36
          exact J215 _ _ _ _ _ _ _ _ _ _ hR hS _ (lv_sub hl [0, 1, 2, 3, 4, 5, 6, 7, 8, 9, 10, 11, 12, 13, 14, 15, 16, 17, 18] rfl) hF
        · replace hF := z_ct hF hc36
          refine lv_iload S.1 S.2.1 dL_would_199 (lv_at hl 18 rfl) ?_
          refine lv_bipush (v := 100) S.1 S.2.1 dL_would_201 (by decide) ?_
          refine z_irem S.1 S.2.1 dL_would_203 (by decide) ?_
          refine lv_if_le (tgt := 215) S.1 S.2.1 dL_would_204 (by decide) (fun hc49 => ?_) (fun hc49 => ?_)
          · replace hF := z_ct hF hc49
            exact J215 _ _ _ _ _ _ _ _ _ _ hR hS _ (lv_sub hl [0, 1, 2, 3, 4, 5, 6, 7, 8, 9, 10, 11, 12, 13, 14, 15, 16, 17, 18] rfl) hF
          · replace hF := z_cf hF hc49
            refine lv_iload S.1 S.2.1 dL_would_207 (lv_at hl 18 rfl) ?_
            refine lv_istore (lv' := [(15, .int a21), (0, .ref (g.1 0 0)), (2, .ref (g.1 26 0)), (3, .ref (g.1 27 0)), (6, .ref (g.1 30 0)), (7, .ref (g.1 31 0)), (8, .ref (g.1 32 0)), (9, .ref (g.1 33 0)), (10, .ref (g.1 34 0)), (11, .int a11), (12, .int a12), (13, .int a13), (14, .int a14), (16, .int a16), (17, .int a17), (18, .int a18), (19, .int a19), (20, .int a20), (21, .int a21)]) S.1 S.2.1 dL_would_209 hl (by decide) rfl (fun ls hl => ?_)
            refine lv_iload S.1 S.2.1 dL_would_211 (lv_at hl 17 rfl) ?_
            refine lv_istore (lv' := [(16, .int a20), (15, .int a21), (0, .ref (g.1 0 0)), (2, .ref (g.1 26 0)), (3, .ref (g.1 27 0)), (6, .ref (g.1 30 0)), (7, .ref (g.1 31 0)), (8, .ref (g.1 32 0)), (9, .ref (g.1 33 0)), (10, .ref (g.1 34 0)), (11, .int a11), (12, .int a12), (13, .int a13), (14, .int a14), (17, .int a17), (18, .int a18), (19, .int a19), (20, .int a20), (21, .int a21)]) S.1 S.2.1 dL_would_213 hl (by decide) rfl (fun ls hl => ?_)
            exact J215 _ _ _ _ _ _ _ _ _ _ hR hS _ (lv_sub hl [2, 3, 4, 5, 6, 7, 8, 9, 10, 11, 12, 13, 1, 0, 14, 15, 16, 17, 18] rfl) hF
      refine lv_iload S.1 S.2.1 dL_would_144 (lv_at hl 17 rfl) ?_
      refine lv_sipush (v := 300) S.1 S.2.1 dL_would_146 (by decide) ?_
      refine lv_icmp_gt (tgt := 293) S.1 S.2.1 dL_would_149 (by decide) (fun hc32 => ?_) (fun hc32 => ?_)
      · replace hF := z_ct hF hc32
        exact hk _ _ _ _ _ _ _ _ _ hR hS _ (lv_sub hl [0, 1, 2, 3, 4, 5, 6, 7, 8, 9, 10, 11, 12, 13, 14, 15, 16, 17] rfl) hF
      · replace hF := z_cf hF hc32
        refine lv_aload S.1 S.2.1 dL_would_152 (lv_at hl 4 rfl) ?_
        refine lv_aload S.1 S.2.1 dL_would_154 (lv_at hl 5 rfl) ?_
        refine lv_aload S.1 S.2.1 dL_would_156 (lv_at hl 6 rfl) ?_
        refine lv_aload S.1 S.2.1 dL_would_158 (lv_at hl 7 rfl) ?_
        refine lv_aload S.1 S.2.1 dL_would_160 (lv_at hl 3 rfl) ?_
        refine z_goi hS hF (fun _ _ ho => va_runS (n := 5) (As := [.ref (g.1 31 0), .ref (g.1 32 0), .ref (g.1 33 0), .ref (g.1 34 0), .ref (g.1 30 0)]) (rest := []) S (kL_tick l hg (by decide) rfl (by decide) rfl (by decide) rfl (by decide) rfl (by decide) rfl ho) (va_cwS 5 S.2.2.2.2 (zgS wm_L_53 oL_tick) rfl rfl rfl hL_tick.2 ⟨Nat.le_of_ble_eq_true rfl, Nat.le_of_ble_eq_true rfl⟩) ⟨zPc_blind, z_pre hK hR⟩ rfl rfl hl.1 rfl (lv_room (Nat.le_of_ble_eq_true rfl)) dL_would_162 ⟨Nat.zero_le _, Nat.zero_le _⟩) (fun r34 M33 H locs hR hS hF => ?_)
        refine lv_istore (lv' := [(21, .int r34), (0, .ref (g.1 0 0)), (2, .ref (g.1 26 0)), (3, .ref (g.1 27 0)), (6, .ref (g.1 30 0)), (7, .ref (g.1 31 0)), (8, .ref (g.1 32 0)), (9, .ref (g.1 33 0)), (10, .ref (g.1 34 0)), (11, .int a11), (12, .int a12), (13, .int a13), (14, .int a14), (15, .int a15), (16, .int a16), (17, .int a17), (18, .int a18), (19, .int a19), (20, .int a20)]) S.1 S.2.1 dL_would_165 hl (by decide) rfl (fun ls hl => ?_)
        refine lv_iload S.1 S.2.1 dL_would_167 (lv_at hl 11 rfl) ?_
        refine lv_if_eq (tgt := 194) S.1 S.2.1 dL_would_169 (by decide) (fun hc35 => ?_) (fun hc35 => ?_)
        · replace hF := z_ct hF hc35
          exact J194 _ _ _ _ _ _ _ _ _ _ hR hS _ (lv_sub hl [1, 2, 3, 4, 5, 6, 7, 8, 9, 10, 11, 12, 13, 14, 15, 16, 17, 18, 0] rfl) hF
        · replace hF := z_cf hF hc35
          refine lv_iload S.1 S.2.1 dL_would_172 (lv_at hl 12 rfl) ?_
          refine lv_if_ge (tgt := 194) S.1 S.2.1 dL_would_174 (by decide) (fun hc50 => ?_) (fun hc50 => ?_)
          · replace hF := z_ct hF hc50
            exact J194 _ _ _ _ _ _ _ _ _ _ hR hS _ (lv_sub hl [1, 2, 3, 4, 5, 6, 7, 8, 9, 10, 11, 12, 13, 14, 15, 16, 17, 18, 0] rfl) hF
          · replace hF := z_cf hF hc50
            refine lv_aload S.1 S.2.1 dL_would_177 (lv_at hl 4 rfl) ?_
            refine lv_iconst (v := 4) S.1 S.2.1 dL_would_179 (by decide) ?_
            refine lv_iload S.1 S.2.1 dL_would_180 (lv_at hl 9 rfl) ?_
            refine lv_imul S.1 S.2.1 dL_would_182 ?_
            refine lv_iload S.1 S.2.1 dL_would_183 (lv_at hl 10 rfl) ?_
            refine lv_iadd S.1 S.2.1 dL_would_185 ?_
            refine z_iald (k := 30) (i := 0) (n := 16) S hK hR hF (by decide) rfl dL_would_186 (fun hF => ?_)
            refine lv_if_lt (tgt := 194) S.1 S.2.1 dL_would_187 (by decide) (fun hc51 => ?_) (fun hc51 => ?_)
            · replace hF := z_ct hF hc51
              exact J194 _ _ _ _ _ _ _ _ _ _ hR hS _ (lv_sub hl [1, 2, 3, 4, 5, 6, 7, 8, 9, 10, 11, 12, 13, 14, 15, 16, 17, 18, 0] rfl) hF
            · replace hF := z_cf hF hc51
              refine lv_iload S.1 S.2.1 dL_would_190 (lv_at hl 18 rfl) ?_
              refine lv_istore (lv' := [(14, .int a20), (21, .int r34), (0, .ref (g.1 0 0)), (2, .ref (g.1 26 0)), (3, .ref (g.1 27 0)), (6, .ref (g.1 30 0)), (7, .ref (g.1 31 0)), (8, .ref (g.1 32 0)), (9, .ref (g.1 33 0)), (10, .ref (g.1 34 0)), (11, .int a11), (12, .int a12), (13, .int a13), (15, .int a15), (16, .int a16), (17, .int a17), (18, .int a18), (19, .int a19), (20, .int a20)]) S.1 S.2.1 dL_would_192 hl (by decide) rfl (fun ls hl => ?_)
              exact J194 _ _ _ _ _ _ _ _ _ _ hR hS _ (lv_sub hl [2, 3, 4, 5, 6, 7, 8, 9, 10, 11, 12, 0, 13, 14, 15, 16, 17, 18, 1] rfl) hF
  have L296 : ∀ (k : zM → Int32 → Option (Int32 × zM)) (a11 : Int32) (a12 : Int32) (a13 : Int32) (a14 : Int32) (a15 : Int32) (a16 : Int32) (a17 : Int32) (a18 : Int32) (a19 : Int32), (∀ (M : zM) (a20 : Int32) (H : Heap) (locs : List Loc), zR g M H → va_S (zS z) s.heap H locs → ∀ ls : Array Slot, lv_has ls 23 [(0, .ref (g.1 0 0)), (11, .int a11), (12, .int a12), (13, .int a13), (14, .int a14), (15, .int a15), (16, .int a16), (17, .int a17), (18, .int a18), (19, .int a19), (20, .int a20)] → k M a20 = some (r, M') → W p l e { frames := 7, cells := 0, slots := 0, locals := 158 } s m ([.ref (g.1 0 0), .int v1, .ref (g.1 26 0), .ref (g.1 27 0), .ref (g.1 28 0), .ref (g.1 29 0), .ref (g.1 30 0), .ref (g.1 31 0), .ref (g.1 32 0), .ref (g.1 33 0), .ref (g.1 34 0)] : List Value).toArray below meth c H locs 0 0 (MQ below (zQi g z r M') ([.ref (g.1 0 0), .int v1, .ref (g.1 26 0), .ref (g.1 27 0), .ref (g.1 28 0), .ref (g.1 29 0), .ref (g.1 30 0), .ref (g.1 31 0), .ref (g.1 32 0), .ref (g.1 33 0), .ref (g.1 34 0)] : List Value).toArray s 0 0 (zS z)) (F0 m 320 ls [])) → ∀ (n : Nat) (M : zM) (a20 : Int32) (H : Heap) (locs : List Loc), zR g M H → va_S (zS z) s.heap H locs → ∀ ls : Array Slot, lv_has ls 23 [(0, .ref (g.1 0 0)), (11, .int a11), (12, .int a12), (13, .int a13), (14, .int a14), (15, .int a15), (16, .int a16), (17, .int a17), (18, .int a18), (19, .int a19), (20, .int a20)] → fL_would_L296 k a11 a12 a13 a14 a15 a16 a17 a18 a19 n M a20 = some (r, M') → W p l e { frames := 7, cells := 0, slots := 0, locals := 158 } s m ([.ref (g.1 0 0), .int v1, .ref (g.1 26 0), .ref (g.1 27 0), .ref (g.1 28 0), .ref (g.1 29 0), .ref (g.1 30 0), .ref (g.1 31 0), .ref (g.1 32 0), .ref (g.1 33 0), .ref (g.1 34 0)] : List Value).toArray below meth c H locs 0 0 (MQ below (zQi g z r M') ([.ref (g.1 0 0), .int v1, .ref (g.1 26 0), .ref (g.1 27 0), .ref (g.1 28 0), .ref (g.1 29 0), .ref (g.1 30 0), .ref (g.1 31 0), .ref (g.1 32 0), .ref (g.1 33 0), .ref (g.1 34 0)] : List Value).toArray s 0 0 (zS z)) (F0 m 296 ls []) := by
    intro k a11 a12 a13 a14 a15 a16 a17 a18 a19 hk n
    induction n with
    | zero =>
      intro M a20 H locs hR hS ls hl hF
      cases hF
    | succ n ih =>
      intro M a20 H locs hR hS ls hl hF
      unfold fL_would_L296 at hF
      refine lv_iload S.1 S.2.1 dL_would_296 (lv_at hl 5 rfl) ?_
      refine lv_if_le (tgt := 320) S.1 S.2.1 dL_would_298 (by decide) (fun hc59 => ?_) (fun hc59 => ?_)
      · replace hF := z_ct hF hc59
        exact hk _ _ _ _ hR hS _ (lv_sub hl [0, 1, 2, 3, 4, 5, 6, 7, 8, 9, 10] rfl) hF
      · replace hF := z_cf hF hc59
        refine lv_iload S.1 S.2.1 dL_would_301 (lv_at hl 5 rfl) ?_
        refine lv_bipush (v := 100) S.1 S.2.1 dL_would_303 (by decide) ?_
        refine z_irem S.1 S.2.1 dL_would_305 (by decide) ?_
        refine lv_iload S.1 S.2.1 dL_would_306 (lv_at hl 10 rfl) ?_
        refine lv_ishr S.1 S.2.1 dL_would_308 ?_
        refine lv_iconst (v := 1) S.1 S.2.1 dL_would_309 (by decide) ?_
        refine lv_iand S.1 S.2.1 dL_would_310 ?_
        refine lv_if_ne (tgt := 320) S.1 S.2.1 dL_would_311 (by decide) (fun hc60 => ?_) (fun hc60 => ?_)
        · replace hF := z_cf hF hc60
          exact hk _ _ _ _ hR hS _ (lv_sub hl [0, 1, 2, 3, 4, 5, 6, 7, 8, 9, 10] rfl) hF
        · replace hF := z_ct hF hc60
          obtain ⟨v61, ev61, hF⟩ := zL_out hF
          refine lv_iinc (v := v61) (lv' := [(20, .int v61), (0, .ref (g.1 0 0)), (11, .int a11), (12, .int a12), (13, .int a13), (14, .int a14), (15, .int a15), (16, .int a16), (17, .int a17), (18, .int a18), (19, .int a19)]) S.1 S.2.1 dL_would_314 hl (k := 10) rfl (by rw [← ev61]; rfl) (by decide) rfl (fun ls hl => ?_)
          refine lv_goto (tgt := 296) S.1 S.2.1 dL_would_317 (by decide) ?_
          exact ih _ _ _ _ hR hS _ (lv_sub hl [1, 2, 3, 4, 5, 6, 7, 8, 9, 10, 0] rfl) hF
  have J116 : ∀ (M : zM) (a1 : Int32) (a11 : Int32) (a12 : Int32) (a13 : Int32) (a14 : Int32) (H : Heap) (locs : List Loc), zR g M H → va_S (zS z) s.heap H locs → ∀ ls : Array Slot, lv_has ls 23 [(0, .ref (g.1 0 0)), (1, .int a1), (2, .ref (g.1 26 0)), (3, .ref (g.1 27 0)), (6, .ref (g.1 30 0)), (7, .ref (g.1 31 0)), (8, .ref (g.1 32 0)), (9, .ref (g.1 33 0)), (10, .ref (g.1 34 0)), (11, .int a11), (12, .int a12), (13, .int a13), (14, .int a14)] → fL_would_J116 M a1 a11 a12 a13 a14 = some (r, M') → W p l e { frames := 7, cells := 0, slots := 0, locals := 158 } s m ([.ref (g.1 0 0), .int v1, .ref (g.1 26 0), .ref (g.1 27 0), .ref (g.1 28 0), .ref (g.1 29 0), .ref (g.1 30 0), .ref (g.1 31 0), .ref (g.1 32 0), .ref (g.1 33 0), .ref (g.1 34 0)] : List Value).toArray below meth c H locs 0 0 (MQ below (zQi g z r M') ([.ref (g.1 0 0), .int v1, .ref (g.1 26 0), .ref (g.1 27 0), .ref (g.1 28 0), .ref (g.1 29 0), .ref (g.1 30 0), .ref (g.1 31 0), .ref (g.1 32 0), .ref (g.1 33 0), .ref (g.1 34 0)] : List Value).toArray s 0 0 (zS z)) (F0 m 116 ls []) := by
    intro M a1 a11 a12 a13 a14 H locs hR hS ls hl hF
    unfold fL_would_J116 at hF
    refine lv_iconst (v := 0) S.1 S.2.1 dL_would_116 (by decide) ?_
    refine lv_istore (lv' := [(15, .int 0), (0, .ref (g.1 0 0)), (1, .int a1), (2, .ref (g.1 26 0)), (3, .ref (g.1 27 0)), (6, .ref (g.1 30 0)), (7, .ref (g.1 31 0)), (8, .ref (g.1 32 0)), (9, .ref (g.1 33 0)), (10, .ref (g.1 34 0)), (11, .int a11), (12, .int a12), (13, .int a13), (14, .int a14)]) S.1 S.2.1 dL_would_117 hl (by decide) rfl (fun ls hl => ?_)
    refine lv_bipush (v := (-6)) S.1 S.2.1 dL_would_119 (by decide) ?_
    refine lv_istore (lv' := [(16, .int (-6)), (15, .int 0), (0, .ref (g.1 0 0)), (1, .int a1), (2, .ref (g.1 26 0)), (3, .ref (g.1 27 0)), (6, .ref (g.1 30 0)), (7, .ref (g.1 31 0)), (8, .ref (g.1 32 0)), (9, .ref (g.1 33 0)), (10, .ref (g.1 34 0)), (11, .int a11), (12, .int a12), (13, .int a13), (14, .int a14)]) S.1 S.2.1 dL_would_121 hl (by decide) rfl (fun ls hl => ?_)
    refine lv_iconst (v := 1) S.1 S.2.1 dL_would_123 (by decide) ?_
    refine lv_iload_n S.1 S.2.1 dL_would_124 rfl (lv_at hl 3 rfl) ?_
    refine lv_iconst (v := 3) S.1 S.2.1 dL_would_125 (by decide) ?_
    refine lv_ishr S.1 S.2.1 dL_would_126 ?_
    refine lv_bipush (v := 60) S.1 S.2.1 dL_would_127 (by decide) ?_
    refine z_goi hS hF (fun _ _ ho => va_runS (n := 2) (As := [.int (a1 >>> (3 &&& 31)), .int 60]) (rest := [.int 1]) S (kL_low l hg ho) (va_cwS 2 S.2.2.2.2 (zgS wm_L_50 oL_low) rfl rfl rfl hL_low.2 ⟨Nat.le_of_ble_eq_true rfl, Nat.le_of_ble_eq_true rfl⟩) ⟨zPc_blind, z_pre hK hR⟩ rfl rfl hl.1 rfl (lv_room (Nat.le_of_ble_eq_true rfl)) dL_would_129 ⟨Nat.zero_le _, Nat.zero_le _⟩) (fun r30 M29 H locs hR hS hF => ?_)
    refine lv_iadd S.1 S.2.1 dL_would_132 ?_
    refine z_nm hF (fun v31 hF => ?_)
    refine lv_istore (lv' := [(17, .int v31), (16, .int (-6)), (15, .int 0), (0, .ref (g.1 0 0)), (1, .int a1), (2, .ref (g.1 26 0)), (3, .ref (g.1 27 0)), (6, .ref (g.1 30 0)), (7, .ref (g.1 31 0)), (8, .ref (g.1 32 0)), (9, .ref (g.1 33 0)), (10, .ref (g.1 34 0)), (11, .int a11), (12, .int a12), (13, .int a13), (14, .int a14)]) S.1 S.2.1 dL_would_133 hl (by decide) rfl (fun ls hl => ?_)
    refine lv_iconst (v := 0) S.1 S.2.1 dL_would_135 (by decide) ?_
    refine lv_istore (lv' := [(18, .int 0), (17, .int v31), (16, .int (-6)), (15, .int 0), (0, .ref (g.1 0 0)), (1, .int a1), (2, .ref (g.1 26 0)), (3, .ref (g.1 27 0)), (6, .ref (g.1 30 0)), (7, .ref (g.1 31 0)), (8, .ref (g.1 32 0)), (9, .ref (g.1 33 0)), (10, .ref (g.1 34 0)), (11, .int a11), (12, .int a12), (13, .int a13), (14, .int a14)]) S.1 S.2.1 dL_would_136 hl (by decide) rfl (fun ls hl => ?_)
    refine lv_iconst (v := 0) S.1 S.2.1 dL_would_138 (by decide) ?_
    refine lv_istore (lv' := [(19, .int 0), (18, .int 0), (17, .int v31), (16, .int (-6)), (15, .int 0), (0, .ref (g.1 0 0)), (1, .int a1), (2, .ref (g.1 26 0)), (3, .ref (g.1 27 0)), (6, .ref (g.1 30 0)), (7, .ref (g.1 31 0)), (8, .ref (g.1 32 0)), (9, .ref (g.1 33 0)), (10, .ref (g.1 34 0)), (11, .int a11), (12, .int a12), (13, .int a13), (14, .int a14)]) S.1 S.2.1 dL_would_139 hl (by decide) rfl (fun ls hl => ?_)
    refine lv_iconst (v := 1) S.1 S.2.1 dL_would_141 (by decide) ?_
    refine lv_istore (lv' := [(20, .int 1), (19, .int 0), (18, .int 0), (17, .int v31), (16, .int (-6)), (15, .int 0), (0, .ref (g.1 0 0)), (1, .int a1), (2, .ref (g.1 26 0)), (3, .ref (g.1 27 0)), (6, .ref (g.1 30 0)), (7, .ref (g.1 31 0)), (8, .ref (g.1 32 0)), (9, .ref (g.1 33 0)), (10, .ref (g.1 34 0)), (11, .int a11), (12, .int a12), (13, .int a13), (14, .int a14)]) S.1 S.2.1 dL_would_142 hl (by decide) rfl (fun ls hl => ?_)
    refine L144 _ _ _ _ _ (fun M52 v53 v54 v55 v56 v57 v58 H locs hR hS ls hl hF => ?_) _ _ _ _ _ _ _ _ _ _ hR hS _ (lv_sub hl [6, 8, 9, 10, 11, 12, 13, 14, 15, 16, 17, 18, 5, 4, 3, 2, 1, 0] rfl) hF
    refine lv_iconst (v := 0) S.1 S.2.1 dL_would_293 (by decide) ?_
    refine lv_istore (lv' := [(20, .int 0), (0, .ref (g.1 0 0)), (2, .ref (g.1 26 0)), (3, .ref (g.1 27 0)), (6, .ref (g.1 30 0)), (7, .ref (g.1 31 0)), (8, .ref (g.1 32 0)), (9, .ref (g.1 33 0)), (10, .ref (g.1 34 0)), (11, .int a11), (12, .int a12), (13, .int a13), (14, .int v53), (15, .int v54), (16, .int v55), (17, .int v31), (18, .int v56), (19, .int v57)]) S.1 S.2.1 dL_would_294 hl (by decide) rfl (fun ls hl => ?_)
    refine L296 _ _ _ _ _ _ _ _ _ _ (fun M62 v63 H locs hR hS ls hl hF => ?_) _ _ _ _ _ hR hS _ (lv_sub hl [1, 9, 10, 11, 12, 13, 14, 15, 16, 17, 0] rfl) hF
    refine lv_aload_n S.1 S.2.1 dL_would_320 rfl (lv_at hl 0 rfl) ?_
    refine lv_iconst (v := 0) S.1 S.2.1 dL_would_321 (by decide) ?_
    refine z_goi hS hF (fun _ _ ho => va_runV (C := RX6) (n := 1) (As := [.int 0]) (rest := []) S (kX6_firstCut l hg ho) (cwV 1 S.2.2.2.2 (zgV wm_L_57 oX6_firstCut) rfl rfl rfl hX6_firstCut ⟨Nat.le_of_ble_eq_true rfl, Nat.le_of_ble_eq_true rfl⟩) ⟨zPc_blind, z_recv hK hR (by decide) rfl rfl, z_pre hK hR⟩ rfl rfl hl.1 rfl (lv_room (Nat.le_of_ble_eq_true rfl)) dL_would_322 ⟨Nat.zero_le _, Nat.zero_le _⟩) (fun r65 M64 H locs hR hS hF => ?_)
    refine lv_iload S.1 S.2.1 dL_would_325 (lv_at hl 6 rfl) ?_
    refine lv_icmp_ne (tgt := 397) S.1 S.2.1 dL_would_327 (by decide) (fun hc66 => ?_) (fun hc66 => ?_)
    · replace hF := z_cf hF hc66
      refine lv_iconst (v := 0) S.1 S.2.1 dL_would_397 (by decide) ?_
      exact z_zretc S hr hlk hR hS (by decide) hF dL_would_398
    · replace hF := z_ct hF hc66
      refine lv_aload_n S.1 S.2.1 dL_would_330 rfl (lv_at hl 0 rfl) ?_
      refine lv_iconst (v := 1) S.1 S.2.1 dL_would_331 (by decide) ?_
      refine z_goi hS hF (fun _ _ ho => va_runV (C := RX6) (n := 1) (As := [.int 1]) (rest := []) S (kX6_firstCut l hg ho) (cwV 1 S.2.2.2.2 (zgV wm_L_57 oX6_firstCut) rfl rfl rfl hX6_firstCut ⟨Nat.le_of_ble_eq_true rfl, Nat.le_of_ble_eq_true rfl⟩) ⟨zPc_blind, z_recv hK hR (by decide) rfl rfl, z_pre hK hR⟩ rfl rfl hl.1 rfl (lv_room (Nat.le_of_ble_eq_true rfl)) dL_would_332 ⟨Nat.zero_le _, Nat.zero_le _⟩) (fun r68 M67 H locs hR hS hF => ?_)
      refine lv_iload S.1 S.2.1 dL_would_335 (lv_at hl 5 rfl) ?_
      refine lv_if_ne (tgt := 345) S.1 S.2.1 dL_would_337 (by decide) (fun hc69 => ?_) (fun hc69 => ?_)
      · replace hF := z_cf hF hc69
        refine lv_iload S.1 S.2.1 dL_would_345 (lv_at hl 10 rfl) ?_
        refine lv_icmp_ne (tgt := 397) S.1 S.2.1 dL_would_347 (by decide) (fun hc70 => ?_) (fun hc70 => ?_)
        · replace hF := z_cf hF hc70
          refine lv_iconst (v := 0) S.1 S.2.1 dL_would_397 (by decide) ?_
          exact z_zretc S hr hlk hR hS (by decide) hF dL_would_398
        · replace hF := z_ct hF hc70
          refine lv_aload_n S.1 S.2.1 dL_would_350 rfl (lv_at hl 0 rfl) ?_
          refine lv_iconst (v := 2) S.1 S.2.1 dL_would_351 (by decide) ?_
          refine z_goi hS hF (fun _ _ ho => va_runV (C := RX6) (n := 1) (As := [.int 2]) (rest := []) S (kX6_firstCut l hg ho) (cwV 1 S.2.2.2.2 (zgV wm_L_57 oX6_firstCut) rfl rfl rfl hX6_firstCut ⟨Nat.le_of_ble_eq_true rfl, Nat.le_of_ble_eq_true rfl⟩) ⟨zPc_blind, z_recv hK hR (by decide) rfl rfl, z_pre hK hR⟩ rfl rfl hl.1 rfl (lv_room (Nat.le_of_ble_eq_true rfl)) dL_would_352 ⟨Nat.zero_le _, Nat.zero_le _⟩) (fun r72 M71 H locs hR hS hF => ?_)
          refine lv_iload S.1 S.2.1 dL_would_355 (lv_at hl 5 rfl) ?_
          refine lv_if_ne (tgt := 365) S.1 S.2.1 dL_would_357 (by decide) (fun _ => ?_) (fun hc => absurd hc hc69)
          refine lv_iload S.1 S.2.1 dL_would_365 (lv_at hl 5 rfl) ?_
          refine lv_bipush (v := 100) S.1 S.2.1 dL_would_367 (by decide) ?_
          refine lv_idiv S.1 S.2.1 dL_would_369 (by decide) ?_
          refine lv_icmp_ne (tgt := 397) S.1 S.2.1 dL_would_370 (by decide) (fun hc73 => ?_) (fun hc73 => ?_)
          · replace hF := z_cf hF hc73
            refine lv_iconst (v := 0) S.1 S.2.1 dL_would_397 (by decide) ?_
            exact z_zretc S hr hlk hR hS (by decide) hF dL_would_398
          · replace hF := z_ct hF hc73
            refine lv_aload_n S.1 S.2.1 dL_would_373 rfl (lv_at hl 0 rfl) ?_
            refine lv_iload S.1 S.2.1 dL_would_374 (lv_at hl 7 rfl) ?_
            refine lv_iconst (v := 0) S.1 S.2.1 dL_would_376 (by decide) ?_
            refine z_goi hS hF (fun _ _ ho => va_runV (C := RX6) (n := 2) (As := [.int v31, .int 0]) (rest := []) S (kX6_ifPassed l hg ho) (cwV 2 S.2.2.2.2 (zgV wm_L_60 oX6_ifPassed) rfl rfl rfl hX6_ifPassed ⟨Nat.le_of_ble_eq_true rfl, Nat.le_of_ble_eq_true rfl⟩) ⟨zPc_blind, z_recv hK hR (by decide) rfl rfl, z_pre hK hR⟩ rfl rfl hl.1 rfl (lv_room (Nat.le_of_ble_eq_true rfl)) dL_would_377 ⟨Nat.zero_le _, Nat.zero_le _⟩) (fun r75 M74 H locs hR hS hF => ?_)
            refine lv_iload S.1 S.2.1 dL_would_380 (lv_at hl 8 rfl) ?_
            refine lv_icmp_ne (tgt := 397) S.1 S.2.1 dL_would_382 (by decide) (fun hc76 => ?_) (fun hc76 => ?_)
            · replace hF := z_cf hF hc76
              refine lv_iconst (v := 0) S.1 S.2.1 dL_would_397 (by decide) ?_
              exact z_zretc S hr hlk hR hS (by decide) hF dL_would_398
            · replace hF := z_ct hF hc76
              refine lv_aload_n S.1 S.2.1 dL_would_385 rfl (lv_at hl 0 rfl) ?_
              refine lv_iload S.1 S.2.1 dL_would_386 (lv_at hl 7 rfl) ?_
              refine lv_iconst (v := 1) S.1 S.2.1 dL_would_388 (by decide) ?_
              refine z_goi hS hF (fun _ _ ho => va_runV (C := RX6) (n := 2) (As := [.int v31, .int 1]) (rest := []) S (kX6_ifPassed l hg ho) (cwV 2 S.2.2.2.2 (zgV wm_L_60 oX6_ifPassed) rfl rfl rfl hX6_ifPassed ⟨Nat.le_of_ble_eq_true rfl, Nat.le_of_ble_eq_true rfl⟩) ⟨zPc_blind, z_recv hK hR (by decide) rfl rfl, z_pre hK hR⟩ rfl rfl hl.1 rfl (lv_room (Nat.le_of_ble_eq_true rfl)) dL_would_389 ⟨Nat.zero_le _, Nat.zero_le _⟩) (fun r78 M77 H locs hR hS hF => ?_)
              refine lv_iload S.1 S.2.1 dL_would_392 (lv_at hl 9 rfl) ?_
              refine lv_icmp_eq (tgt := 399) S.1 S.2.1 dL_would_394 (by decide) (fun hc79 => ?_) (fun hc79 => ?_)
              · replace hF := z_ct hF hc79
                refine lv_iload S.1 S.2.1 dL_would_399 (lv_at hl 3 rfl) ?_
                refine lv_if_eq (tgt := 430) S.1 S.2.1 dL_would_401 (by decide) (fun hc80 => ?_) (fun hc80 => ?_)
                · replace hF := z_ct hF hc80
                  refine lv_iconst (v := 1) S.1 S.2.1 dL_would_430 (by decide) ?_
                  refine lv_goto (tgt := 435) S.1 S.2.1 dL_would_431 (by decide) ?_
                  exact z_zretc S hr hlk hR hS (by decide) hF dL_would_435
                · replace hF := z_cf hF hc80
                  refine lv_aload_n S.1 S.2.1 dL_would_404 rfl (lv_at hl 0 rfl) ?_
                  refine lv_iload S.1 S.2.1 dL_would_405 (lv_at hl 1 rfl) ?_
                  refine lv_iload S.1 S.2.1 dL_would_407 (lv_at hl 2 rfl) ?_
                  refine z_goi hS hF (fun _ _ ho => va_runV (C := RX6) (n := 2) (As := [.int a11, .int a12]) (rest := []) S (kX6_meets l hg ho) (cwV 2 S.2.2.2.2 (zgV wm_L_63 oX6_meets) rfl rfl rfl hX6_meets ⟨Nat.le_of_ble_eq_true rfl, Nat.le_of_ble_eq_true rfl⟩) ⟨zPc_blind, z_recv hK hR (by decide) rfl rfl, z_pre hK hR⟩ rfl rfl hl.1 rfl (lv_room (Nat.le_of_ble_eq_true rfl)) dL_would_409 ⟨Nat.zero_le _, Nat.zero_le _⟩) (fun r82 M81 H locs hR hS hF => ?_)
                  refine lv_iload S.1 S.2.1 dL_would_412 (lv_at hl 4 rfl) ?_
                  refine lv_icmp_ne (tgt := 434) S.1 S.2.1 dL_would_414 (by decide) (fun hc83 => ?_) (fun hc83 => ?_)
                  · replace hF := z_cf hF hc83
                    refine lv_iconst (v := 0) S.1 S.2.1 dL_would_434 (by decide) ?_
                    exact z_zretc S hr hlk hR hS (by decide) hF dL_would_435
                  · replace hF := z_ct hF hc83
                    refine lv_aload_n S.1 S.2.1 dL_would_417 rfl (lv_at hl 0 rfl) ?_
                    refine lv_iload S.1 S.2.1 dL_would_418 (lv_at hl 2 rfl) ?_
                    refine lv_iload S.1 S.2.1 dL_would_420 (lv_at hl 1 rfl) ?_
                    refine z_goi hS hF (fun _ _ ho => va_runV (C := RX6) (n := 2) (As := [.int a12, .int a11]) (rest := []) S (kX6_meets l hg ho) (cwV 2 S.2.2.2.2 (zgV wm_L_63 oX6_meets) rfl rfl rfl hX6_meets ⟨Nat.le_of_ble_eq_true rfl, Nat.le_of_ble_eq_true rfl⟩) ⟨zPc_blind, z_recv hK hR (by decide) rfl rfl, z_pre hK hR⟩ rfl rfl hl.1 rfl (lv_room (Nat.le_of_ble_eq_true rfl)) dL_would_422 ⟨Nat.zero_le _, Nat.zero_le _⟩) (fun r85 M84 H locs hR hS hF => ?_)
                    refine lv_iload S.1 S.2.1 dL_would_425 (lv_at hl 4 rfl) ?_
                    refine lv_icmp_ne (tgt := 434) S.1 S.2.1 dL_would_427 (by decide) (fun hc86 => ?_) (fun hc86 => ?_)
                    · replace hF := z_cf hF hc86
                      refine lv_iconst (v := 0) S.1 S.2.1 dL_would_434 (by decide) ?_
                      exact z_zretc S hr hlk hR hS (by decide) hF dL_would_435
                    · replace hF := z_ct hF hc86
                      refine lv_iconst (v := 1) S.1 S.2.1 dL_would_430 (by decide) ?_
                      refine lv_goto (tgt := 435) S.1 S.2.1 dL_would_431 (by decide) ?_
                      exact z_zretc S hr hlk hR hS (by decide) hF dL_would_435
              · replace hF := z_cf hF hc79
                refine lv_iconst (v := 0) S.1 S.2.1 dL_would_397 (by decide) ?_
                exact z_zretc S hr hlk hR hS (by decide) hF dL_would_398
      · replace hF := z_ct hF hc69
        refine lv_bipush (v := (-6)) S.1 S.2.1 dL_would_340 (by decide) ?_
        refine lv_goto (tgt := 347) S.1 S.2.1 dL_would_342 (by decide) ?_
        refine lv_icmp_ne (tgt := 397) S.1 S.2.1 dL_would_347 (by decide) (fun hc87 => ?_) (fun hc87 => ?_)
        · replace hF := z_cf hF hc87
          refine lv_iconst (v := 0) S.1 S.2.1 dL_would_397 (by decide) ?_
          exact z_zretc S hr hlk hR hS (by decide) hF dL_would_398
        · replace hF := z_ct hF hc87
          refine lv_aload_n S.1 S.2.1 dL_would_350 rfl (lv_at hl 0 rfl) ?_
          refine lv_iconst (v := 2) S.1 S.2.1 dL_would_351 (by decide) ?_
          refine z_goi hS hF (fun _ _ ho => va_runV (C := RX6) (n := 1) (As := [.int 2]) (rest := []) S (kX6_firstCut l hg ho) (cwV 1 S.2.2.2.2 (zgV wm_L_57 oX6_firstCut) rfl rfl rfl hX6_firstCut ⟨Nat.le_of_ble_eq_true rfl, Nat.le_of_ble_eq_true rfl⟩) ⟨zPc_blind, z_recv hK hR (by decide) rfl rfl, z_pre hK hR⟩ rfl rfl hl.1 rfl (lv_room (Nat.le_of_ble_eq_true rfl)) dL_would_352 ⟨Nat.zero_le _, Nat.zero_le _⟩) (fun r89 M88 H locs hR hS hF => ?_)
          refine lv_iload S.1 S.2.1 dL_would_355 (lv_at hl 5 rfl) ?_
          refine lv_if_ne (tgt := 365) S.1 S.2.1 dL_would_357 (by decide) (fun hc => absurd hc69 hc) (fun _ => ?_)
          refine lv_bipush (v := (-6)) S.1 S.2.1 dL_would_360 (by decide) ?_
          refine lv_goto (tgt := 370) S.1 S.2.1 dL_would_362 (by decide) ?_
          refine lv_icmp_ne (tgt := 397) S.1 S.2.1 dL_would_370 (by decide) (fun hc90 => ?_) (fun hc90 => ?_)
          · replace hF := z_cf hF hc90
            refine lv_iconst (v := 0) S.1 S.2.1 dL_would_397 (by decide) ?_
            exact z_zretc S hr hlk hR hS (by decide) hF dL_would_398
          · replace hF := z_ct hF hc90
            refine lv_aload_n S.1 S.2.1 dL_would_373 rfl (lv_at hl 0 rfl) ?_
            refine lv_iload S.1 S.2.1 dL_would_374 (lv_at hl 7 rfl) ?_
            refine lv_iconst (v := 0) S.1 S.2.1 dL_would_376 (by decide) ?_
            refine z_goi hS hF (fun _ _ ho => va_runV (C := RX6) (n := 2) (As := [.int v31, .int 0]) (rest := []) S (kX6_ifPassed l hg ho) (cwV 2 S.2.2.2.2 (zgV wm_L_60 oX6_ifPassed) rfl rfl rfl hX6_ifPassed ⟨Nat.le_of_ble_eq_true rfl, Nat.le_of_ble_eq_true rfl⟩) ⟨zPc_blind, z_recv hK hR (by decide) rfl rfl, z_pre hK hR⟩ rfl rfl hl.1 rfl (lv_room (Nat.le_of_ble_eq_true rfl)) dL_would_377 ⟨Nat.zero_le _, Nat.zero_le _⟩) (fun r92 M91 H locs hR hS hF => ?_)
            refine lv_iload S.1 S.2.1 dL_would_380 (lv_at hl 8 rfl) ?_
            refine lv_icmp_ne (tgt := 397) S.1 S.2.1 dL_would_382 (by decide) (fun hc93 => ?_) (fun hc93 => ?_)
            · replace hF := z_cf hF hc93
              refine lv_iconst (v := 0) S.1 S.2.1 dL_would_397 (by decide) ?_
              exact z_zretc S hr hlk hR hS (by decide) hF dL_would_398
            · replace hF := z_ct hF hc93
              refine lv_aload_n S.1 S.2.1 dL_would_385 rfl (lv_at hl 0 rfl) ?_
              refine lv_iload S.1 S.2.1 dL_would_386 (lv_at hl 7 rfl) ?_
              refine lv_iconst (v := 1) S.1 S.2.1 dL_would_388 (by decide) ?_
              refine z_goi hS hF (fun _ _ ho => va_runV (C := RX6) (n := 2) (As := [.int v31, .int 1]) (rest := []) S (kX6_ifPassed l hg ho) (cwV 2 S.2.2.2.2 (zgV wm_L_60 oX6_ifPassed) rfl rfl rfl hX6_ifPassed ⟨Nat.le_of_ble_eq_true rfl, Nat.le_of_ble_eq_true rfl⟩) ⟨zPc_blind, z_recv hK hR (by decide) rfl rfl, z_pre hK hR⟩ rfl rfl hl.1 rfl (lv_room (Nat.le_of_ble_eq_true rfl)) dL_would_389 ⟨Nat.zero_le _, Nat.zero_le _⟩) (fun r95 M94 H locs hR hS hF => ?_)
              refine lv_iload S.1 S.2.1 dL_would_392 (lv_at hl 9 rfl) ?_
              refine lv_icmp_eq (tgt := 399) S.1 S.2.1 dL_would_394 (by decide) (fun hc96 => ?_) (fun hc96 => ?_)
              · replace hF := z_ct hF hc96
                refine lv_iload S.1 S.2.1 dL_would_399 (lv_at hl 3 rfl) ?_
                refine lv_if_eq (tgt := 430) S.1 S.2.1 dL_would_401 (by decide) (fun hc97 => ?_) (fun hc97 => ?_)
                · replace hF := z_ct hF hc97
                  refine lv_iconst (v := 1) S.1 S.2.1 dL_would_430 (by decide) ?_
                  refine lv_goto (tgt := 435) S.1 S.2.1 dL_would_431 (by decide) ?_
                  exact z_zretc S hr hlk hR hS (by decide) hF dL_would_435
                · replace hF := z_cf hF hc97
                  refine lv_aload_n S.1 S.2.1 dL_would_404 rfl (lv_at hl 0 rfl) ?_
                  refine lv_iload S.1 S.2.1 dL_would_405 (lv_at hl 1 rfl) ?_
                  refine lv_iload S.1 S.2.1 dL_would_407 (lv_at hl 2 rfl) ?_
                  refine z_goi hS hF (fun _ _ ho => va_runV (C := RX6) (n := 2) (As := [.int a11, .int a12]) (rest := []) S (kX6_meets l hg ho) (cwV 2 S.2.2.2.2 (zgV wm_L_63 oX6_meets) rfl rfl rfl hX6_meets ⟨Nat.le_of_ble_eq_true rfl, Nat.le_of_ble_eq_true rfl⟩) ⟨zPc_blind, z_recv hK hR (by decide) rfl rfl, z_pre hK hR⟩ rfl rfl hl.1 rfl (lv_room (Nat.le_of_ble_eq_true rfl)) dL_would_409 ⟨Nat.zero_le _, Nat.zero_le _⟩) (fun r99 M98 H locs hR hS hF => ?_)
                  refine lv_iload S.1 S.2.1 dL_would_412 (lv_at hl 4 rfl) ?_
                  refine lv_icmp_ne (tgt := 434) S.1 S.2.1 dL_would_414 (by decide) (fun hc100 => ?_) (fun hc100 => ?_)
                  · replace hF := z_cf hF hc100
                    refine lv_iconst (v := 0) S.1 S.2.1 dL_would_434 (by decide) ?_
                    exact z_zretc S hr hlk hR hS (by decide) hF dL_would_435
                  · replace hF := z_ct hF hc100
                    refine lv_aload_n S.1 S.2.1 dL_would_417 rfl (lv_at hl 0 rfl) ?_
                    refine lv_iload S.1 S.2.1 dL_would_418 (lv_at hl 2 rfl) ?_
                    refine lv_iload S.1 S.2.1 dL_would_420 (lv_at hl 1 rfl) ?_
                    refine z_goi hS hF (fun _ _ ho => va_runV (C := RX6) (n := 2) (As := [.int a12, .int a11]) (rest := []) S (kX6_meets l hg ho) (cwV 2 S.2.2.2.2 (zgV wm_L_63 oX6_meets) rfl rfl rfl hX6_meets ⟨Nat.le_of_ble_eq_true rfl, Nat.le_of_ble_eq_true rfl⟩) ⟨zPc_blind, z_recv hK hR (by decide) rfl rfl, z_pre hK hR⟩ rfl rfl hl.1 rfl (lv_room (Nat.le_of_ble_eq_true rfl)) dL_would_422 ⟨Nat.zero_le _, Nat.zero_le _⟩) (fun r102 M101 H locs hR hS hF => ?_)
                    refine lv_iload S.1 S.2.1 dL_would_425 (lv_at hl 4 rfl) ?_
                    refine lv_icmp_ne (tgt := 434) S.1 S.2.1 dL_would_427 (by decide) (fun hc103 => ?_) (fun hc103 => ?_)
                    · replace hF := z_cf hF hc103
                      refine lv_iconst (v := 0) S.1 S.2.1 dL_would_434 (by decide) ?_
                      exact z_zretc S hr hlk hR hS (by decide) hF dL_would_435
                    · replace hF := z_ct hF hc103
                      refine lv_iconst (v := 1) S.1 S.2.1 dL_would_430 (by decide) ?_
                      refine lv_goto (tgt := 435) S.1 S.2.1 dL_would_431 (by decide) ?_
                      exact z_zretc S hr hlk hR hS (by decide) hF dL_would_435
              · replace hF := z_cf hF hc96
                refine lv_iconst (v := 0) S.1 S.2.1 dL_would_397 (by decide) ?_
                exact z_zretc S hr hlk hR hS (by decide) hF dL_would_398
  unfold fL_would at hF
  refine lv_aload_n S.1 S.2.1 dL_would_0 rfl (lv_at hl 2 rfl) ?_
  refine lv_aload S.1 S.2.1 dL_would_1 (lv_at hl 7 rfl) ?_
  refine lv_iconst (v := 4) S.1 S.2.1 dL_would_3 (by decide) ?_
  refine z_gov hS hF (fun _ _ ho => va_runS (n := 3) (As := [.ref (g.1 26 0), .ref (g.1 31 0), .int 4]) (rest := []) S (kL_copy l hg (by decide) rfl (by decide) rfl ho) (va_cwS 3 S.2.2.2.2 (zgS wm_L_46 oL_copy) rfl rfl rfl hL_copy.2 ⟨Nat.le_of_ble_eq_true rfl, Nat.le_of_ble_eq_true rfl⟩) ⟨zPc_blind, z_pre hK hR⟩ rfl rfl hl.1 rfl (lv_room (Nat.le_of_ble_eq_true rfl)) dL_would_4 ⟨Nat.zero_le _, Nat.zero_le _⟩) (fun M21 H locs hR hS hF => ?_)
  refine lv_aload_n S.1 S.2.1 dL_would_7 rfl (lv_at hl 3 rfl) ?_
  refine lv_aload S.1 S.2.1 dL_would_8 (lv_at hl 8 rfl) ?_
  refine lv_bipush (v := 48) S.1 S.2.1 dL_would_10 (by decide) ?_
  refine z_gov hS hF (fun _ _ ho => va_runS (n := 3) (As := [.ref (g.1 27 0), .ref (g.1 32 0), .int 48]) (rest := []) S (kL_copy l hg (by decide) rfl (by decide) rfl ho) (va_cwS 3 S.2.2.2.2 (zgS wm_L_46 oL_copy) rfl rfl rfl hL_copy.2 ⟨Nat.le_of_ble_eq_true rfl, Nat.le_of_ble_eq_true rfl⟩) ⟨zPc_blind, z_pre hK hR⟩ rfl rfl hl.1 rfl (lv_room (Nat.le_of_ble_eq_true rfl)) dL_would_12 ⟨Nat.zero_le _, Nat.zero_le _⟩) (fun M22 H locs hR hS hF => ?_)
  refine lv_aload S.1 S.2.1 dL_would_15 (lv_at hl 4 rfl) ?_
  refine lv_aload S.1 S.2.1 dL_would_17 (lv_at hl 9 rfl) ?_
  refine lv_bipush (v := 64) S.1 S.2.1 dL_would_19 (by decide) ?_
  refine z_gov hS hF (fun _ _ ho => va_runS (n := 3) (As := [.ref (g.1 28 0), .ref (g.1 33 0), .int 64]) (rest := []) S (kL_copy l hg (by decide) rfl (by decide) rfl ho) (va_cwS 3 S.2.2.2.2 (zgS wm_L_46 oL_copy) rfl rfl rfl hL_copy.2 ⟨Nat.le_of_ble_eq_true rfl, Nat.le_of_ble_eq_true rfl⟩) ⟨zPc_blind, z_pre hK hR⟩ rfl rfl hl.1 rfl (lv_room (Nat.le_of_ble_eq_true rfl)) dL_would_21 ⟨Nat.zero_le _, Nat.zero_le _⟩) (fun M23 H locs hR hS hF => ?_)
  refine lv_aload S.1 S.2.1 dL_would_24 (lv_at hl 5 rfl) ?_
  refine lv_aload S.1 S.2.1 dL_would_26 (lv_at hl 10 rfl) ?_
  refine lv_bipush (v := 64) S.1 S.2.1 dL_would_28 (by decide) ?_
  refine z_gov hS hF (fun _ _ ho => va_runS (n := 3) (As := [.ref (g.1 29 0), .ref (g.1 34 0), .int 64]) (rest := []) S (kL_copy l hg (by decide) rfl (by decide) rfl ho) (va_cwS 3 S.2.2.2.2 (zgS wm_L_46 oL_copy) rfl rfl rfl hL_copy.2 ⟨Nat.le_of_ble_eq_true rfl, Nat.le_of_ble_eq_true rfl⟩) ⟨zPc_blind, z_pre hK hR⟩ rfl rfl hl.1 rfl (lv_room (Nat.le_of_ble_eq_true rfl)) dL_would_30 ⟨Nat.zero_le _, Nat.zero_le _⟩) (fun M24 H locs hR hS hF => ?_)
  refine lv_iload_n S.1 S.2.1 dL_would_33 rfl (lv_at hl 1 rfl) ?_
  refine lv_aload_n S.1 S.2.1 dL_would_34 rfl (lv_at hl 2 rfl) ?_
  refine lv_iconst (v := 0) S.1 S.2.1 dL_would_35 (by decide) ?_
  refine z_iald (k := 26) (i := 0) (n := 4) S hK hR hF (by decide) rfl dL_would_36 (fun hF => ?_)
  refine z_goi hS hF (fun _ _ ho => va_runS (n := 2) (As := [.int v1, .int (M24 26 0 (zN 0))]) (rest := []) S (kL_low l hg ho) (va_cwS 2 S.2.2.2.2 (zgS wm_L_50 oL_low) rfl rfl rfl hL_low.2 ⟨Nat.le_of_ble_eq_true rfl, Nat.le_of_ble_eq_true rfl⟩) ⟨zPc_blind, z_pre hK hR⟩ rfl rfl hl.1 rfl (lv_room (Nat.le_of_ble_eq_true rfl)) dL_would_37 ⟨Nat.zero_le _, Nat.zero_le _⟩) (fun r26 M25 H locs hR hS hF => ?_)
  refine lv_istore (lv' := [(11, .int r26), (0, .ref (g.1 0 0)), (1, .int v1), (2, .ref (g.1 26 0)), (3, .ref (g.1 27 0)), (4, .ref (g.1 28 0)), (5, .ref (g.1 29 0)), (6, .ref (g.1 30 0)), (7, .ref (g.1 31 0)), (8, .ref (g.1 32 0)), (9, .ref (g.1 33 0)), (10, .ref (g.1 34 0))]) S.1 S.2.1 dL_would_40 hl (by decide) rfl (fun ls hl => ?_)
  refine lv_iload S.1 S.2.1 dL_would_42 (lv_at hl 0 rfl) ?_
  refine lv_iconst (v := 1) S.1 S.2.1 dL_would_44 (by decide) ?_
  refine lv_iadd S.1 S.2.1 dL_would_45 ?_
  refine lv_aload_n S.1 S.2.1 dL_would_46 rfl (lv_at hl 3 rfl) ?_
  refine lv_iconst (v := 0) S.1 S.2.1 dL_would_47 (by decide) ?_
  refine z_iald (k := 26) (i := 0) (n := 4) S hK hR hF (by decide) rfl dL_would_48 (fun hF => ?_)
  obtain ⟨hne, hF⟩ := zV_out hF
  refine z_irem S.1 S.2.1 dL_would_49 hne ?_
  refine z_nm hF (fun v27 hF => ?_)
  refine lv_istore (lv' := [(12, .int v27), (11, .int r26), (0, .ref (g.1 0 0)), (1, .int v1), (2, .ref (g.1 26 0)), (3, .ref (g.1 27 0)), (4, .ref (g.1 28 0)), (5, .ref (g.1 29 0)), (6, .ref (g.1 30 0)), (7, .ref (g.1 31 0)), (8, .ref (g.1 32 0)), (9, .ref (g.1 33 0)), (10, .ref (g.1 34 0))]) S.1 S.2.1 dL_would_50 hl (by decide) rfl (fun ls hl => ?_)
  refine lv_iload S.1 S.2.1 dL_would_52 (lv_at hl 1 rfl) ?_
  refine lv_iload S.1 S.2.1 dL_would_54 (lv_at hl 0 rfl) ?_
  refine lv_icmp_eq (tgt := 89) S.1 S.2.1 dL_would_56 (by decide) (fun hc28 => ?_) (fun hc28 => ?_)
  · replace hF := z_ct hF hc28
    refine lv_iconst (v := 0) S.1 S.2.1 dL_would_89 (by decide) ?_
    refine lv_istore (lv' := [(13, .int 0), (12, .int v27), (11, .int r26), (0, .ref (g.1 0 0)), (1, .int v1), (2, .ref (g.1 26 0)), (3, .ref (g.1 27 0)), (4, .ref (g.1 28 0)), (5, .ref (g.1 29 0)), (6, .ref (g.1 30 0)), (7, .ref (g.1 31 0)), (8, .ref (g.1 32 0)), (9, .ref (g.1 33 0)), (10, .ref (g.1 34 0))]) S.1 S.2.1 dL_would_90 hl (by decide) rfl (fun ls hl => ?_)
    refine lv_iload S.1 S.2.1 dL_would_92 (lv_at hl 0 rfl) ?_
    refine lv_if_eq (tgt := 112) S.1 S.2.1 dL_would_94 (by decide) (fun _ => ?_) (fun hc => absurd hc (by decide))
    refine lv_bipush (v := (-6)) S.1 S.2.1 dL_would_112 (by decide) ?_
    refine lv_istore (lv' := [(14, .int (-6)), (13, .int 0), (12, .int v27), (11, .int r26), (0, .ref (g.1 0 0)), (1, .int v1), (2, .ref (g.1 26 0)), (3, .ref (g.1 27 0)), (4, .ref (g.1 28 0)), (5, .ref (g.1 29 0)), (6, .ref (g.1 30 0)), (7, .ref (g.1 31 0)), (8, .ref (g.1 32 0)), (9, .ref (g.1 33 0)), (10, .ref (g.1 34 0))]) S.1 S.2.1 dL_would_114 hl (by decide) rfl (fun ls hl => ?_)
    exact J116 _ _ _ _ _ _ _ _ hR hS _ (lv_sub hl [4, 5, 6, 7, 10, 11, 12, 13, 14, 3, 2, 1, 0] rfl) hF
  · replace hF := z_cf hF hc28
    refine lv_aload_n S.1 S.2.1 dL_would_59 rfl (lv_at hl 5 rfl) ?_
    refine lv_bipush (v := 12) S.1 S.2.1 dL_would_60 (by decide) ?_
    refine lv_iload S.1 S.2.1 dL_would_62 (lv_at hl 1 rfl) ?_
    refine lv_imul S.1 S.2.1 dL_would_64 ?_
    refine lv_bipush (v := 8) S.1 S.2.1 dL_would_65 (by decide) ?_
    refine lv_iadd S.1 S.2.1 dL_would_67 ?_
    refine z_iald (k := 27) (i := 0) (n := 48) S hK hR hF (by decide) rfl dL_would_68 (fun hF => ?_)
    refine lv_if_ne (tgt := 89) S.1 S.2.1 dL_would_69 (by decide) (fun hc104 => ?_) (fun hc104 => ?_)
    · replace hF := z_cf hF hc104
      refine lv_iconst (v := 0) S.1 S.2.1 dL_would_89 (by decide) ?_
      refine lv_istore (lv' := [(13, .int 0), (12, .int v27), (11, .int r26), (0, .ref (g.1 0 0)), (1, .int v1), (2, .ref (g.1 26 0)), (3, .ref (g.1 27 0)), (4, .ref (g.1 28 0)), (5, .ref (g.1 29 0)), (6, .ref (g.1 30 0)), (7, .ref (g.1 31 0)), (8, .ref (g.1 32 0)), (9, .ref (g.1 33 0)), (10, .ref (g.1 34 0))]) S.1 S.2.1 dL_would_90 hl (by decide) rfl (fun ls hl => ?_)
      refine lv_iload S.1 S.2.1 dL_would_92 (lv_at hl 0 rfl) ?_
      refine lv_if_eq (tgt := 112) S.1 S.2.1 dL_would_94 (by decide) (fun _ => ?_) (fun hc => absurd hc (by decide))
      refine lv_bipush (v := (-6)) S.1 S.2.1 dL_would_112 (by decide) ?_
      refine lv_istore (lv' := [(14, .int (-6)), (13, .int 0), (12, .int v27), (11, .int r26), (0, .ref (g.1 0 0)), (1, .int v1), (2, .ref (g.1 26 0)), (3, .ref (g.1 27 0)), (4, .ref (g.1 28 0)), (5, .ref (g.1 29 0)), (6, .ref (g.1 30 0)), (7, .ref (g.1 31 0)), (8, .ref (g.1 32 0)), (9, .ref (g.1 33 0)), (10, .ref (g.1 34 0))]) S.1 S.2.1 dL_would_114 hl (by decide) rfl (fun ls hl => ?_)
      exact J116 _ _ _ _ _ _ _ _ hR hS _ (lv_sub hl [4, 5, 6, 7, 10, 11, 12, 13, 14, 3, 2, 1, 0] rfl) hF
    · replace hF := z_ct hF hc104
      refine lv_aload_n S.1 S.2.1 dL_would_72 rfl (lv_at hl 5 rfl) ?_
      refine lv_bipush (v := 12) S.1 S.2.1 dL_would_73 (by decide) ?_
      refine lv_iload S.1 S.2.1 dL_would_75 (lv_at hl 0 rfl) ?_
      refine lv_imul S.1 S.2.1 dL_would_77 ?_
      refine lv_bipush (v := 8) S.1 S.2.1 dL_would_78 (by decide) ?_
      refine lv_iadd S.1 S.2.1 dL_would_80 ?_
      refine z_iald (k := 27) (i := 0) (n := 48) S hK hR hF (by decide) rfl dL_would_81 (fun hF => ?_)
      refine lv_if_ne (tgt := 89) S.1 S.2.1 dL_would_82 (by decide) (fun hc105 => ?_) (fun hc105 => ?_)
      · replace hF := z_cf hF hc105
        refine lv_iconst (v := 0) S.1 S.2.1 dL_would_89 (by decide) ?_
        refine lv_istore (lv' := [(13, .int 0), (12, .int v27), (11, .int r26), (0, .ref (g.1 0 0)), (1, .int v1), (2, .ref (g.1 26 0)), (3, .ref (g.1 27 0)), (4, .ref (g.1 28 0)), (5, .ref (g.1 29 0)), (6, .ref (g.1 30 0)), (7, .ref (g.1 31 0)), (8, .ref (g.1 32 0)), (9, .ref (g.1 33 0)), (10, .ref (g.1 34 0))]) S.1 S.2.1 dL_would_90 hl (by decide) rfl (fun ls hl => ?_)
        refine lv_iload S.1 S.2.1 dL_would_92 (lv_at hl 0 rfl) ?_
        refine lv_if_eq (tgt := 112) S.1 S.2.1 dL_would_94 (by decide) (fun _ => ?_) (fun hc => absurd hc (by decide))
        refine lv_bipush (v := (-6)) S.1 S.2.1 dL_would_112 (by decide) ?_
        refine lv_istore (lv' := [(14, .int (-6)), (13, .int 0), (12, .int v27), (11, .int r26), (0, .ref (g.1 0 0)), (1, .int v1), (2, .ref (g.1 26 0)), (3, .ref (g.1 27 0)), (4, .ref (g.1 28 0)), (5, .ref (g.1 29 0)), (6, .ref (g.1 30 0)), (7, .ref (g.1 31 0)), (8, .ref (g.1 32 0)), (9, .ref (g.1 33 0)), (10, .ref (g.1 34 0))]) S.1 S.2.1 dL_would_114 hl (by decide) rfl (fun ls hl => ?_)
        exact J116 _ _ _ _ _ _ _ _ hR hS _ (lv_sub hl [4, 5, 6, 7, 10, 11, 12, 13, 14, 3, 2, 1, 0] rfl) hF
      · replace hF := z_ct hF hc105
        refine lv_iconst (v := 1) S.1 S.2.1 dL_would_85 (by decide) ?_
        refine lv_goto (tgt := 90) S.1 S.2.1 dL_would_86 (by decide) ?_
        refine lv_istore (lv' := [(13, .int 1), (12, .int v27), (11, .int r26), (0, .ref (g.1 0 0)), (1, .int v1), (2, .ref (g.1 26 0)), (3, .ref (g.1 27 0)), (4, .ref (g.1 28 0)), (5, .ref (g.1 29 0)), (6, .ref (g.1 30 0)), (7, .ref (g.1 31 0)), (8, .ref (g.1 32 0)), (9, .ref (g.1 33 0)), (10, .ref (g.1 34 0))]) S.1 S.2.1 dL_would_90 hl (by decide) rfl (fun ls hl => ?_)
        refine lv_iload S.1 S.2.1 dL_would_92 (lv_at hl 0 rfl) ?_
        refine lv_if_eq (tgt := 112) S.1 S.2.1 dL_would_94 (by decide) (fun hc => absurd hc (by decide)) (fun _ => ?_)
        refine lv_iload S.1 S.2.1 dL_would_97 (lv_at hl 2 rfl) ?_
        refine lv_iload S.1 S.2.1 dL_would_99 (lv_at hl 1 rfl) ?_
        refine lv_aload_n S.1 S.2.1 dL_would_101 rfl (lv_at hl 6 rfl) ?_
        refine z_goi hS hF (fun _ _ ho => va_runS (n := 3) (As := [.int r26, .int v27, .ref (g.1 27 0)]) (rest := []) S (kL_place l hg (by decide) rfl ho) (va_cwS 3 S.2.2.2.2 (zgS wm_L_16 oL_place) rfl rfl rfl hL_place.2 ⟨Nat.le_of_ble_eq_true rfl, Nat.le_of_ble_eq_true rfl⟩) ⟨zPc_blind, z_pre hK hR⟩ rfl rfl hl.1 rfl (lv_room (Nat.le_of_ble_eq_true rfl)) dL_would_102 ⟨Nat.zero_le _, Nat.zero_le _⟩) (fun r107 M106 H locs hR hS hF => ?_)
        refine lv_if_lt (tgt := 112) S.1 S.2.1 dL_would_105 (by decide) (fun hc108 => ?_) (fun hc108 => ?_)
        · replace hF := z_ct hF hc108
          refine lv_bipush (v := (-6)) S.1 S.2.1 dL_would_112 (by decide) ?_
          refine lv_istore (lv' := [(14, .int (-6)), (13, .int 1), (12, .int v27), (11, .int r26), (0, .ref (g.1 0 0)), (1, .int v1), (2, .ref (g.1 26 0)), (3, .ref (g.1 27 0)), (4, .ref (g.1 28 0)), (5, .ref (g.1 29 0)), (6, .ref (g.1 30 0)), (7, .ref (g.1 31 0)), (8, .ref (g.1 32 0)), (9, .ref (g.1 33 0)), (10, .ref (g.1 34 0))]) S.1 S.2.1 dL_would_114 hl (by decide) rfl (fun ls hl => ?_)
          exact J116 _ _ _ _ _ _ _ _ hR hS _ (lv_sub hl [4, 5, 6, 7, 10, 11, 12, 13, 14, 3, 2, 1, 0] rfl) hF
        · replace hF := z_cf hF hc108
          refine lv_iconst (v := 0) S.1 S.2.1 dL_would_108 (by decide) ?_
          refine lv_goto (tgt := 114) S.1 S.2.1 dL_would_109 (by decide) ?_
          refine lv_istore (lv' := [(14, .int 0), (13, .int 1), (12, .int v27), (11, .int r26), (0, .ref (g.1 0 0)), (1, .int v1), (2, .ref (g.1 26 0)), (3, .ref (g.1 27 0)), (4, .ref (g.1 28 0)), (5, .ref (g.1 29 0)), (6, .ref (g.1 30 0)), (7, .ref (g.1 31 0)), (8, .ref (g.1 32 0)), (9, .ref (g.1 33 0)), (10, .ref (g.1 34 0))]) S.1 S.2.1 dL_would_114 hl (by decide) rfl (fun ls hl => ?_)
          exact J116 _ _ _ _ _ _ _ _ hR hS _ (lv_sub hl [4, 5, 6, 7, 10, 11, 12, 13, 14, 3, 2, 1, 0] rfl) hF
