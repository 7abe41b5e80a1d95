theorem dfX2 : ∀ j, j < 17 → defaultValue (tyX2 j) = vp_V [.int 0, .int 0, .int 0, .int 0, .null, .null, .null, .null, .null, .null, .null, .null, .null, .null, .null, .null, .null] j := by
  intro j hj
  have h : j = 0 ∨ j = 1 ∨ j = 2 ∨ j = 3 ∨ j = 4 ∨ j = 5 ∨ j = 6 ∨ j = 7 ∨ j = 8 ∨ j = 9 ∨ j = 10 ∨ j = 11 ∨ j = 12 ∨ j = 13 ∨ j = 14 ∨ j = 15 ∨ j = 16 := by omega
  rcases h with rfl | rfl | rfl | rfl | rfl | rfl | rfl | rfl | rfl | rfl | rfl | rfl | rfl | rfl | rfl | rfl | rfl <;> rfl
def zeSky (g : zGeo) (a : Nat) : List va_E := [.inr (2, [.int 0, .int 0, .int 0, .int 0, .ref (a + 1), .ref (a + 2), .ref (a + 3), .ref (a + 4), .ref (a + 5), .ref (a + 6), .ref (a + 7), .ref (a + 8), .ref (a + 9), .ref (a + 10), .ref (a + 11), .ref (a + 12), .ref (a + 13)]), .inl (g.2.2 0, 6, .inl (fun _ => 0)), .inl (g.2.2 0, 6, .inl (fun _ => 0)), .inl (g.2.2 0, 6, .inl (fun _ => 0)), .inl (g.2.2 0, 6, .inl (fun _ => 0)), .inl (g.2.2 0, 6, .inl (fun _ => 0)), .inl (g.2.2 0, 6, .inl (fun _ => 0)), .inl (g.2.2 0, 6, .inl (fun _ => 0)), .inl (g.2.2 0, 6, .inl (fun _ => 0)), .inl (g.2.2 0, 6, .inl (fun _ => 0)), .inl (g.2.2 0, 6, .inl (fun _ => 0)), .inl (g.2.2 0, 6, .inl (fun _ => 0)), .inl (g.2.2 0, 6, .inl (fun _ => 0)), .inl (g.2.2 0, 192, .inl (fun _ => 0))]
theorem hX2_init : yX2_init.cls ≠ "java/lang/invoke/MethodHandle" ∧ yX2_init.cls ≠ "java/lang/invoke/VarHandle" ∧ (parseMethodDescriptor yX2_init.desc).map (fun d => d.parameters.length) = some 0 := by decide +kernel
set_option maxRecDepth 100000 in
set_option maxHeartbeats 8000000 in
theorem kX2_init (l : Launch) {g : zGeo} (a : Nat) : Met l yX2_init [.code yX2_init cX2_init 1 none] { frames := 1, cells := 13, slots := 264, locals := 40 } (zPi g a [.inr (2, [.int 0, .int 0, .int 0, .int 0, .null, .null, .null, .null, .null, .null, .null, .null, .null, .null, .null, .null, .null])]) (zQn g a (zeSky g a)) 13 264 (zS a) := by
  refine zi_enter (cc := cX2_init) (maxL := 1) (by decide) rfl rfl (by decide) ?_
  intro p e s m below meth c S hr hlk hin hK hE hS ls hl
  have S : CallFix p m c cX2_init 1 s _ zT RX2 := S
  refine lv_aload_n S.1 S.2.1 dX2_init_0 rfl (lv_at hl 0 rfl) ?_
  refine W.objInit S.1 S.2.1 S.2.2.2.1 (S.2.2.2.2 _ wm_X2_3) (S.2.2.2.2 _ wv_JO_init) (S.2.2.2.2 _ wk_JO_init) rfl (by rw [S.2.2.1]; exact hl.1) rfl dX2_init_1 (Nat.le_of_ble_eq_true rfl) (Nat.le_of_ble_eq_true rfl) ?_
  refine W.eq (g2 := F0 m 4 ls []) rfl ?_
  refine lv_aload_n S.1 S.2.1 dX2_init_4 rfl (lv_at hl 0 rfl) ?_
  refine lv_bipush (v := 6) S.1 S.2.1 dX2_init_5 (by decide) ?_
  refine zs_newa (atype := .int) (t := 0) (N := 6) (b := a + 1) S hK hE hS wa_FieldTypeint (hK.1.1.2 0 _ rfl).2 rfl (by decide) (by decide) (by decide) rfl (Nat.le_of_ble_eq_true rfl) (Nat.le_of_ble_eq_true rfl) dX2_init_7 (fun H hE hS => ?_)
  have hE : zSeg g a [.inr (2, [.int 0, .int 0, .int 0, .int 0, .null, .null, .null, .null, .null, .null, .null, .null, .null, .null, .null, .null, .null]), .inl (g.2.2 0, 6, .inl (fun _ => 0))] H := hE
  refine zs_put (k := 0) (f := 4) (v := .ref (a + 1)) (ty := .array .int) S hK hE hS (Nat.le_refl _) hin rfl rfl rfl (by decide) wf_X2_9 rfl rfl (by decide +kernel) rfl rfl (Nat.le_of_ble_eq_true rfl) dX2_init_9 (fun H locs hE hS => ?_)
  have hE : zSeg g a [.inr (2, [.int 0, .int 0, .int 0, .int 0, .ref (a + 1), .null, .null, .null, .null, .null, .null, .null, .null, .null, .null, .null, .null]), .inl (g.2.2 0, 6, .inl (fun _ => 0))] H := hE
  refine lv_aload_n S.1 S.2.1 dX2_init_12 rfl (lv_at hl 0 rfl) ?_
  refine lv_bipush (v := 6) S.1 S.2.1 dX2_init_13 (by decide) ?_
  refine zs_newa (atype := .int) (t := 0) (N := 6) (b := a + 2) S hK hE hS wa_FieldTypeint (hK.1.1.2 0 _ rfl).2 rfl (by decide) (by decide) (by decide) rfl (Nat.le_of_ble_eq_true rfl) (Nat.le_of_ble_eq_true rfl) dX2_init_15 (fun H hE hS => ?_)
  have hE : zSeg g a [.inr (2, [.int 0, .int 0, .int 0, .int 0, .ref (a + 1), .null, .null, .null, .null, .null, .null, .null, .null, .null, .null, .null, .null]), .inl (g.2.2 0, 6, .inl (fun _ => 0)), .inl (g.2.2 0, 6, .inl (fun _ => 0))] H := hE
  refine zs_put (k := 0) (f := 5) (v := .ref (a + 2)) (ty := .array .int) S hK hE hS (Nat.le_refl _) hin rfl rfl rfl (by decide) wf_X2_15 rfl rfl (by decide +kernel) rfl rfl (Nat.le_of_ble_eq_true rfl) dX2_init_17 (fun H locs hE hS => ?_)
  have hE : zSeg g a [.inr (2, [.int 0, .int 0, .int 0, .int 0, .ref (a + 1), .ref (a + 2), .null, .null, .null, .null, .null, .null, .null, .null, .null, .null, .null]), .inl (g.2.2 0, 6, .inl (fun _ => 0)), .inl (g.2.2 0, 6, .inl (fun _ => 0))] H := hE
  refine lv_aload_n S.1 S.2.1 dX2_init_20 rfl (lv_at hl 0 rfl) ?_
  refine lv_bipush (v := 6) S.1 S.2.1 dX2_init_21 (by decide) ?_
  refine zs_newa (atype := .int) (t := 0) (N := 6) (b := a + 3) S hK hE hS wa_FieldTypeint (hK.1.1.2 0 _ rfl).2 rfl (by decide) (by decide) (by decide) rfl (Nat.le_of_ble_eq_true rfl) (Nat.le_of_ble_eq_true rfl) dX2_init_23 (fun H hE hS => ?_)
  have hE : zSeg g a [.inr (2, [.int 0, .int 0, .int 0, .int 0, .ref (a + 1), .ref (a + 2), .null, .null, .null, .null, .null, .null, .null, .null, .null, .null, .null]), .inl (g.2.2 0, 6, .inl (fun _ => 0)), .inl (g.2.2 0, 6, .inl (fun _ => 0)), .inl (g.2.2 0, 6, .inl (fun _ => 0))] H := hE
  refine zs_put (k := 0) (f := 6) (v := .ref (a + 3)) (ty := .array .int) S hK hE hS (Nat.le_refl _) hin rfl rfl rfl (by decide) wf_X2_18 rfl rfl (by decide +kernel) rfl rfl (Nat.le_of_ble_eq_true rfl) dX2_init_25 (fun H locs hE hS => ?_)
  have hE : zSeg g a [.inr (2, [.int 0, .int 0, .int 0, .int 0, .ref (a + 1), .ref (a + 2), .ref (a + 3), .null, .null, .null, .null, .null, .null, .null, .null, .null, .null]), .inl (g.2.2 0, 6, .inl (fun _ => 0)), .inl (g.2.2 0, 6, .inl (fun _ => 0)), .inl (g.2.2 0, 6, .inl (fun _ => 0))] H := hE
  refine lv_aload_n S.1 S.2.1 dX2_init_28 rfl (lv_at hl 0 rfl) ?_
  refine lv_bipush (v := 6) S.1 S.2.1 dX2_init_29 (by decide) ?_
  refine zs_newa (atype := .int) (t := 0) (N := 6) (b := a + 4) S hK hE hS wa_FieldTypeint (hK.1.1.2 0 _ rfl).2 rfl (by decide) (by decide) (by decide) rfl (Nat.le_of_ble_eq_true rfl) (Nat.le_of_ble_eq_true rfl) dX2_init_31 (fun H hE hS => ?_)
  have hE : zSeg g a [.inr (2, [.int 0, .int 0, .int 0, .int 0, .ref (a + 1), .ref (a + 2), .ref (a + 3), .null, .null, .null, .null, .null, .null, .null, .null, .null, .null]), .inl (g.2.2 0, 6, .inl (fun _ => 0)), .inl (g.2.2 0, 6, .inl (fun _ => 0)), .inl (g.2.2 0, 6, .inl (fun _ => 0)), .inl (g.2.2 0, 6, .inl (fun _ => 0))] H := hE
  refine zs_put (k := 0) (f := 7) (v := .ref (a + 4)) (ty := .array .int) S hK hE hS (Nat.le_refl _) hin rfl rfl rfl (by decide) wf_X2_21 rfl rfl (by decide +kernel) rfl rfl (Nat.le_of_ble_eq_true rfl) dX2_init_33 (fun H locs hE hS => ?_)
  have hE : zSeg g a [.inr (2, [.int 0, .int 0, .int 0, .int 0, .ref (a + 1), .ref (a + 2), .ref (a + 3), .ref (a + 4), .null, .null, .null, .null, .null, .null, .null, .null, .null]), .inl (g.2.2 0, 6, .inl (fun _ => 0)), .inl (g.2.2 0, 6, .inl (fun _ => 0)), .inl (g.2.2 0, 6, .inl (fun _ => 0)), .inl (g.2.2 0, 6, .inl (fun _ => 0))] H := hE
  refine lv_aload_n S.1 S.2.1 dX2_init_36 rfl (lv_at hl 0 rfl) ?_
  refine lv_bipush (v := 6) S.1 S.2.1 dX2_init_37 (by decide) ?_
  refine zs_newa (atype := .int) (t := 0) (N := 6) (b := a + 5) S hK hE hS wa_FieldTypeint (hK.1.1.2 0 _ rfl).2 rfl (by decide) (by decide) (by decide) rfl (Nat.le_of_ble_eq_true rfl) (Nat.le_of_ble_eq_true rfl) dX2_init_39 (fun H hE hS => ?_)
  have hE : zSeg g a [.inr (2, [.int 0, .int 0, .int 0, .int 0, .ref (a + 1), .ref (a + 2), .ref (a + 3), .ref (a + 4), .null, .null, .null, .null, .null, .null, .null, .null, .null]), .inl (g.2.2 0, 6, .inl (fun _ => 0)), .inl (g.2.2 0, 6, .inl (fun _ => 0)), .inl (g.2.2 0, 6, .inl (fun _ => 0)), .inl (g.2.2 0, 6, .inl (fun _ => 0)), .inl (g.2.2 0, 6, .inl (fun _ => 0))] H := hE
  refine zs_put (k := 0) (f := 8) (v := .ref (a + 5)) (ty := .array .int) S hK hE hS (Nat.le_refl _) hin rfl rfl rfl (by decide) wf_X2_24 rfl rfl (by decide +kernel) rfl rfl (Nat.le_of_ble_eq_true rfl) dX2_init_41 (fun H locs hE hS => ?_)
  have hE : zSeg g a [.inr (2, [.int 0, .int 0, .int 0, .int 0, .ref (a + 1), .ref (a + 2), .ref (a + 3), .ref (a + 4), .ref (a + 5), .null, .null, .null, .null, .null, .null, .null, .null]), .inl (g.2.2 0, 6, .inl (fun _ => 0)), .inl (g.2.2 0, 6, .inl (fun _ => 0)), .inl (g.2.2 0, 6, .inl (fun _ => 0)), .inl (g.2.2 0, 6, .inl (fun _ => 0)), .inl (g.2.2 0, 6, .inl (fun _ => 0))] H := hE
  refine lv_aload_n S.1 S.2.1 dX2_init_44 rfl (lv_at hl 0 rfl) ?_
  refine lv_bipush (v := 6) S.1 S.2.1 dX2_init_45 (by decide) ?_
  refine zs_newa (atype := .int) (t := 0) (N := 6) (b := a + 6) S hK hE hS wa_FieldTypeint (hK.1.1.2 0 _ rfl).2 rfl (by decide) (by decide) (by decide) rfl (Nat.le_of_ble_eq_true rfl) (Nat.le_of_ble_eq_true rfl) dX2_init_47 (fun H hE hS => ?_)
  have hE : zSeg g a [.inr (2, [.int 0, .int 0, .int 0, .int 0, .ref (a + 1), .ref (a + 2), .ref (a + 3), .ref (a + 4), .ref (a + 5), .null, .null, .null, .null, .null, .null, .null, .null]), .inl (g.2.2 0, 6, .inl (fun _ => 0)), .inl (g.2.2 0, 6, .inl (fun _ => 0)), .inl (g.2.2 0, 6, .inl (fun _ => 0)), .inl (g.2.2 0, 6, .inl (fun _ => 0)), .inl (g.2.2 0, 6, .inl (fun _ => 0)), .inl (g.2.2 0, 6, .inl (fun _ => 0))] H := hE
  refine zs_put (k := 0) (f := 9) (v := .ref (a + 6)) (ty := .array .int) S hK hE hS (Nat.le_refl _) hin rfl rfl rfl (by decide) wf_X2_27 rfl rfl (by decide +kernel) rfl rfl (Nat.le_of_ble_eq_true rfl) dX2_init_49 (fun H locs hE hS => ?_)
  have hE : zSeg g a [.inr (2, [.int 0, .int 0, .int 0, .int 0, .ref (a + 1), .ref (a + 2), .ref (a + 3), .ref (a + 4), .ref (a + 5), .ref (a + 6), .null, .null, .null, .null, .null, .null, .null]), .inl (g.2.2 0, 6, .inl (fun _ => 0)), .inl (g.2.2 0, 6, .inl (fun _ => 0)), .inl (g.2.2 0, 6, .inl (fun _ => 0)), .inl (g.2.2 0, 6, .inl (fun _ => 0)), .inl (g.2.2 0, 6, .inl (fun _ => 0)), .inl (g.2.2 0, 6, .inl (fun _ => 0))] H := hE
  refine lv_aload_n S.1 S.2.1 dX2_init_52 rfl (lv_at hl 0 rfl) ?_
  refine lv_bipush (v := 6) S.1 S.2.1 dX2_init_53 (by decide) ?_
  refine zs_newa (atype := .int) (t := 0) (N := 6) (b := a + 7) S hK hE hS wa_FieldTypeint (hK.1.1.2 0 _ rfl).2 rfl (by decide) (by decide) (by decide) rfl (Nat.le_of_ble_eq_true rfl) (Nat.le_of_ble_eq_true rfl) dX2_init_55 (fun H hE hS => ?_)
  have hE : zSeg g a [.inr (2, [.int 0, .int 0, .int 0, .int 0, .ref (a + 1), .ref (a + 2), .ref (a + 3), .ref (a + 4), .ref (a + 5), .ref (a + 6), .null, .null, .null, .null, .null, .null, .null]), .inl (g.2.2 0, 6, .inl (fun _ => 0)), .inl (g.2.2 0, 6, .inl (fun _ => 0)), .inl (g.2.2 0, 6, .inl (fun _ => 0)), .inl (g.2.2 0, 6, .inl (fun _ => 0)), .inl (g.2.2 0, 6, .inl (fun _ => 0)), .inl (g.2.2 0, 6, .inl (fun _ => 0)), .inl (g.2.2 0, 6, .inl (fun _ => 0))] H := hE
  refine zs_put (k := 0) (f := 10) (v := .ref (a + 7)) (ty := .array .int) S hK hE hS (Nat.le_refl _) hin rfl rfl rfl (by decide) wf_X2_30 rfl rfl (by decide +kernel) rfl rfl (Nat.le_of_ble_eq_true rfl) dX2_init_57 (fun H locs hE hS => ?_)
  have hE : zSeg g a [.inr (2, [.int 0, .int 0, .int 0, .int 0, .ref (a + 1), .ref (a + 2), .ref (a + 3), .ref (a + 4), .ref (a + 5), .ref (a + 6), .ref (a + 7), .null, .null, .null, .null, .null, .null]), .inl (g.2.2 0, 6, .inl (fun _ => 0)), .inl (g.2.2 0, 6, .inl (fun _ => 0)), .inl (g.2.2 0, 6, .inl (fun _ => 0)), .inl (g.2.2 0, 6, .inl (fun _ => 0)), .inl (g.2.2 0, 6, .inl (fun _ => 0)), .inl (g.2.2 0, 6, .inl (fun _ => 0)), .inl (g.2.2 0, 6, .inl (fun _ => 0))] H := hE
  refine lv_aload_n S.1 S.2.1 dX2_init_60 rfl (lv_at hl 0 rfl) ?_
  refine lv_bipush (v := 6) S.1 S.2.1 dX2_init_61 (by decide) ?_
  refine zs_newa (atype := .int) (t := 0) (N := 6) (b := a + 8) S hK hE hS wa_FieldTypeint (hK.1.1.2 0 _ rfl).2 rfl (by decide) (by decide) (by decide) rfl (Nat.le_of_ble_eq_true rfl) (Nat.le_of_ble_eq_true rfl) dX2_init_63 (fun H hE hS => ?_)
  have hE : zSeg g a [.inr (2, [.int 0, .int 0, .int 0, .int 0, .ref (a + 1), .ref (a + 2), .ref (a + 3), .ref (a + 4), .ref (a + 5), .ref (a + 6), .ref (a + 7), .null, .null, .null, .null, .null, .null]), .inl (g.2.2 0, 6, .inl (fun _ => 0)), .inl (g.2.2 0, 6, .inl (fun _ => 0)), .inl (g.2.2 0, 6, .inl (fun _ => 0)), .inl (g.2.2 0, 6, .inl (fun _ => 0)), .inl (g.2.2 0, 6, .inl (fun _ => 0)), .inl (g.2.2 0, 6, .inl (fun _ => 0)), .inl (g.2.2 0, 6, .inl (fun _ => 0)), .inl (g.2.2 0, 6, .inl (fun _ => 0))] H := hE
  refine zs_put (k := 0) (f := 11) (v := .ref (a + 8)) (ty := .array .int) S hK hE hS (Nat.le_refl _) hin rfl rfl rfl (by decide) wf_X2_33 rfl rfl (by decide +kernel) rfl rfl (Nat.le_of_ble_eq_true rfl) dX2_init_65 (fun H locs hE hS => ?_)
  have hE : zSeg g a [.inr (2, [.int 0, .int 0, .int 0, .int 0, .ref (a + 1), .ref (a + 2), .ref (a + 3), .ref (a + 4), .ref (a + 5), .ref (a + 6), .ref (a + 7), .ref (a + 8), .null, .null, .null, .null, .null]), .inl (g.2.2 0, 6, .inl (fun _ => 0)), .inl (g.2.2 0, 6, .inl (fun _ => 0)), .inl (g.2.2 0, 6, .inl (fun _ => 0)), .inl (g.2.2 0, 6, .inl (fun _ => 0)), .inl (g.2.2 0, 6, .inl (fun _ => 0)), .inl (g.2.2 0, 6, .inl (fun _ => 0)), .inl (g.2.2 0, 6, .inl (fun _ => 0)), .inl (g.2.2 0, 6, .inl (fun _ => 0))] H := hE
  refine lv_aload_n S.1 S.2.1 dX2_init_68 rfl (lv_at hl 0 rfl) ?_
  refine lv_bipush (v := 6) S.1 S.2.1 dX2_init_69 (by decide) ?_
  refine zs_newa (atype := .int) (t := 0) (N := 6) (b := a + 9) S hK hE hS wa_FieldTypeint (hK.1.1.2 0 _ rfl).2 rfl (by decide) (by decide) (by decide) rfl (Nat.le_of_ble_eq_true rfl) (Nat.le_of_ble_eq_true rfl) dX2_init_71 (fun H hE hS => ?_)
  have hE : zSeg g a [.inr (2, [.int 0, .int 0, .int 0, .int 0, .ref (a + 1), .ref (a + 2), .ref (a + 3), .ref (a + 4), .ref (a + 5), .ref (a + 6), .ref (a + 7), .ref (a + 8), .null, .null, .null, .null, .null]), .inl (g.2.2 0, 6, .inl (fun _ => 0)), .inl (g.2.2 0, 6, .inl (fun _ => 0)), .inl (g.2.2 0, 6, .inl (fun _ => 0)), .inl (g.2.2 0, 6, .inl (fun _ => 0)), .inl (g.2.2 0, 6, .inl (fun _ => 0)), .inl (g.2.2 0, 6, .inl (fun _ => 0)), .inl (g.2.2 0, 6, .inl (fun _ => 0)), .inl (g.2.2 0, 6, .inl (fun _ => 0)), .inl (g.2.2 0, 6, .inl (fun _ => 0))] H := hE
  refine zs_put (k := 0) (f := 12) (v := .ref (a + 9)) (ty := .array .int) S hK hE hS (Nat.le_refl _) hin rfl rfl rfl (by decide) wf_X2_36 rfl rfl (by decide +kernel) rfl rfl (Nat.le_of_ble_eq_true rfl) dX2_init_73 (fun H locs hE hS => ?_)
  have hE : zSeg g a [.inr (2, [.int 0, .int 0, .int 0, .int 0, .ref (a + 1), .ref (a + 2), .ref (a + 3), .ref (a + 4), .ref (a + 5), .ref (a + 6), .ref (a + 7), .ref (a + 8), .ref (a + 9), .null, .null, .null, .null]), .inl (g.2.2 0, 6, .inl (fun _ => 0)), .inl (g.2.2 0, 6, .inl (fun _ => 0)), .inl (g.2.2 0, 6, .inl (fun _ => 0)), .inl (g.2.2 0, 6, .inl (fun _ => 0)), .inl (g.2.2 0, 6, .inl (fun _ => 0)), .inl (g.2.2 0, 6, .inl (fun _ => 0)), .inl (g.2.2 0, 6, .inl (fun _ => 0)), .inl (g.2.2 0, 6, .inl (fun _ => 0)), .inl (g.2.2 0, 6, .inl (fun _ => 0))] H := hE
  refine lv_aload_n S.1 S.2.1 dX2_init_76 rfl (lv_at hl 0 rfl) ?_
  refine lv_bipush (v := 6) S.1 S.2.1 dX2_init_77 (by decide) ?_
  refine zs_newa (atype := .int) (t := 0) (N := 6) (b := a + 10) S hK hE hS wa_FieldTypeint (hK.1.1.2 0 _ rfl).2 rfl (by decide) (by decide) (by decide) rfl (Nat.le_of_ble_eq_true rfl) (Nat.le_of_ble_eq_true rfl) dX2_init_79 (fun H hE hS => ?_)
  have hE : zSeg g a [.inr (2, [.int 0, .int 0, .int 0, .int 0, .ref (a + 1), .ref (a + 2), .ref (a + 3), .ref (a + 4), .ref (a + 5), .ref (a + 6), .ref (a + 7), .ref (a + 8), .ref (a + 9), .null, .null, .null, .null]), .inl (g.2.2 0, 6, .inl (fun _ => 0)), .inl (g.2.2 0, 6, .inl (fun _ => 0)), .inl (g.2.2 0, 6, .inl (fun _ => 0)), .inl (g.2.2 0, 6, .inl (fun _ => 0)), .inl (g.2.2 0, 6, .inl (fun _ => 0)), .inl (g.2.2 0, 6, .inl (fun _ => 0)), .inl (g.2.2 0, 6, .inl (fun _ => 0)), .inl (g.2.2 0, 6, .inl (fun _ => 0)), .inl (g.2.2 0, 6, .inl (fun _ => 0)), .inl (g.2.2 0, 6, .inl (fun _ => 0))] H := hE
  refine zs_put (k := 0) (f := 13) (v := .ref (a + 10)) (ty := .array .int) S hK hE hS (Nat.le_refl _) hin rfl rfl rfl (by decide) wf_X2_39 rfl rfl (by decide +kernel) rfl rfl (Nat.le_of_ble_eq_true rfl) dX2_init_81 (fun H locs hE hS => ?_)
  have hE : zSeg g a [.inr (2, [.int 0, .int 0, .int 0, .int 0, .ref (a + 1), .ref (a + 2), .ref (a + 3), .ref (a + 4), .ref (a + 5), .ref (a + 6), .ref (a + 7), .ref (a + 8), .ref (a + 9), .ref (a + 10), .null, .null, .null]), .inl (g.2.2 0, 6, .inl (fun _ => 0)), .inl (g.2.2 0, 6, .inl (fun _ => 0)), .inl (g.2.2 0, 6, .inl (fun _ => 0)), .inl (g.2.2 0, 6, .inl (fun _ => 0)), .inl (g.2.2 0, 6, .inl (fun _ => 0)), .inl (g.2.2 0, 6, .inl (fun _ => 0)), .inl (g.2.2 0, 6, .inl (fun _ => 0)), .inl (g.2.2 0, 6, .inl (fun _ => 0)), .inl (g.2.2 0, 6, .inl (fun _ => 0)), .inl (g.2.2 0, 6, .inl (fun _ => 0))] H := hE
  refine lv_aload_n S.1 S.2.1 dX2_init_84 rfl (lv_at hl 0 rfl) ?_
  refine lv_bipush (v := 6) S.1 S.2.1 dX2_init_85 (by decide) ?_
  refine zs_newa (atype := .int) (t := 0) (N := 6) (b := a + 11) S hK hE hS wa_FieldTypeint (hK.1.1.2 0 _ rfl).2 rfl (by decide) (by decide) (by decide) rfl (Nat.le_of_ble_eq_true rfl) (Nat.le_of_ble_eq_true rfl) dX2_init_87 (fun H hE hS => ?_)
  have hE : zSeg g a [.inr (2, [.int 0, .int 0, .int 0, .int 0, .ref (a + 1), .ref (a + 2), .ref (a + 3), .ref (a + 4), .ref (a + 5), .ref (a + 6), .ref (a + 7), .ref (a + 8), .ref (a + 9), .ref (a + 10), .null, .null, .null]), .inl (g.2.2 0, 6, .inl (fun _ => 0)), .inl (g.2.2 0, 6, .inl (fun _ => 0)), .inl (g.2.2 0, 6, .inl (fun _ => 0)), .inl (g.2.2 0, 6, .inl (fun _ => 0)), .inl (g.2.2 0, 6, .inl (fun _ => 0)), .inl (g.2.2 0, 6, .inl (fun _ => 0)), .inl (g.2.2 0, 6, .inl (fun _ => 0)), .inl (g.2.2 0, 6, .inl (fun _ => 0)), .inl (g.2.2 0, 6, .inl (fun _ => 0)), .inl (g.2.2 0, 6, .inl (fun _ => 0)), .inl (g.2.2 0, 6, .inl (fun _ => 0))] H := hE
  refine zs_put (k := 0) (f := 14) (v := .ref (a + 11)) (ty := .array .int) S hK hE hS (Nat.le_refl _) hin rfl rfl rfl (by decide) wf_X2_42 rfl rfl (by decide +kernel) rfl rfl (Nat.le_of_ble_eq_true rfl) dX2_init_89 (fun H locs hE hS => ?_)
  have hE : zSeg g a [.inr (2, [.int 0, .int 0, .int 0, .int 0, .ref (a + 1), .ref (a + 2), .ref (a + 3), .ref (a + 4), .ref (a + 5), .ref (a + 6), .ref (a + 7), .ref (a + 8), .ref (a + 9), .ref (a + 10), .ref (a + 11), .null, .null]), .inl (g.2.2 0, 6, .inl (fun _ => 0)), .inl (g.2.2 0, 6, .inl (fun _ => 0)), .inl (g.2.2 0, 6, .inl (fun _ => 0)), .inl (g.2.2 0, 6, .inl (fun _ => 0)), .inl (g.2.2 0, 6, .inl (fun _ => 0)), .inl (g.2.2 0, 6, .inl (fun _ => 0)), .inl (g.2.2 0, 6, .inl (fun _ => 0)), .inl (g.2.2 0, 6, .inl (fun _ => 0)), .inl (g.2.2 0, 6, .inl (fun _ => 0)), .inl (g.2.2 0, 6, .inl (fun _ => 0)), .inl (g.2.2 0, 6, .inl (fun _ => 0))] H := hE
  refine lv_aload_n S.1 S.2.1 dX2_init_92 rfl (lv_at hl 0 rfl) ?_
  refine lv_bipush (v := 6) S.1 S.2.1 dX2_init_93 (by decide) ?_
  refine zs_newa (atype := .int) (t := 0) (N := 6) (b := a + 12) S hK hE hS wa_FieldTypeint (hK.1.1.2 0 _ rfl).2 rfl (by decide) (by decide) (by decide) rfl (Nat.le_of_ble_eq_true rfl) (Nat.le_of_ble_eq_true rfl) dX2_init_95 (fun H hE hS => ?_)
  have hE : zSeg g a [.inr (2, [.int 0, .int 0, .int 0, .int 0, .ref (a + 1), .ref (a + 2), .ref (a + 3), .ref (a + 4), .ref (a + 5), .ref (a + 6), .ref (a + 7), .ref (a + 8), .ref (a + 9), .ref (a + 10), .ref (a + 11), .null, .null]), .inl (g.2.2 0, 6, .inl (fun _ => 0)), .inl (g.2.2 0, 6, .inl (fun _ => 0)), .inl (g.2.2 0, 6, .inl (fun _ => 0)), .inl (g.2.2 0, 6, .inl (fun _ => 0)), .inl (g.2.2 0, 6, .inl (fun _ => 0)), .inl (g.2.2 0, 6, .inl (fun _ => 0)), .inl (g.2.2 0, 6, .inl (fun _ => 0)), .inl (g.2.2 0, 6, .inl (fun _ => 0)), .inl (g.2.2 0, 6, .inl (fun _ => 0)), .inl (g.2.2 0, 6, .inl (fun _ => 0)), .inl (g.2.2 0, 6, .inl (fun _ => 0)), .inl (g.2.2 0, 6, .inl (fun _ => 0))] H := hE
  refine zs_put (k := 0) (f := 15) (v := .ref (a + 12)) (ty := .array .int) S hK hE hS (Nat.le_refl _) hin rfl rfl rfl (by decide) wf_X2_45 rfl rfl (by decide +kernel) rfl rfl (Nat.le_of_ble_eq_true rfl) dX2_init_97 (fun H locs hE hS => ?_)
  have hE : zSeg g a [.inr (2, [.int 0, .int 0, .int 0, .int 0, .ref (a + 1), .ref (a + 2), .ref (a + 3), .ref (a + 4), .ref (a + 5), .ref (a + 6), .ref (a + 7), .ref (a + 8), .ref (a + 9), .ref (a + 10), .ref (a + 11), .ref (a + 12), .null]), .inl (g.2.2 0, 6, .inl (fun _ => 0)), .inl (g.2.2 0, 6, .inl (fun _ => 0)), .inl (g.2.2 0, 6, .inl (fun _ => 0)), .inl (g.2.2 0, 6, .inl (fun _ => 0)), .inl (g.2.2 0, 6, .inl (fun _ => 0)), .inl (g.2.2 0, 6, .inl (fun _ => 0)), .inl (g.2.2 0, 6, .inl (fun _ => 0)), .inl (g.2.2 0, 6, .inl (fun _ => 0)), .inl (g.2.2 0, 6, .inl (fun _ => 0)), .inl (g.2.2 0, 6, .inl (fun _ => 0)), .inl (g.2.2 0, 6, .inl (fun _ => 0)), .inl (g.2.2 0, 6, .inl (fun _ => 0))] H := hE
  refine lv_aload_n S.1 S.2.1 dX2_init_100 rfl (lv_at hl 0 rfl) ?_
  refine lv_sipush (v := 192) S.1 S.2.1 dX2_init_101 (by decide) ?_
  refine zs_newa (atype := .int) (t := 0) (N := 192) (b := a + 13) S hK hE hS wa_FieldTypeint (hK.1.1.2 0 _ rfl).2 rfl (by decide) (by decide) (by decide) rfl (Nat.le_of_ble_eq_true rfl) (Nat.le_of_ble_eq_true rfl) dX2_init_104 (fun H hE hS => ?_)
  have hE : zSeg g a [.inr (2, [.int 0, .int 0, .int 0, .int 0, .ref (a + 1), .ref (a + 2), .ref (a + 3), .ref (a + 4), .ref (a + 5), .ref (a + 6), .ref (a + 7), .ref (a + 8), .ref (a + 9), .ref (a + 10), .ref (a + 11), .ref (a + 12), .null]), .inl (g.2.2 0, 6, .inl (fun _ => 0)), .inl (g.2.2 0, 6, .inl (fun _ => 0)), .inl (g.2.2 0, 6, .inl (fun _ => 0)), .inl (g.2.2 0, 6, .inl (fun _ => 0)), .inl (g.2.2 0, 6, .inl (fun _ => 0)), .inl (g.2.2 0, 6, .inl (fun _ => 0)), .inl (g.2.2 0, 6, .inl (fun _ => 0)), .inl (g.2.2 0, 6, .inl (fun _ => 0)), .inl (g.2.2 0, 6, .inl (fun _ => 0)), .inl (g.2.2 0, 6, .inl (fun _ => 0)), .inl (g.2.2 0, 6, .inl (fun _ => 0)), .inl (g.2.2 0, 6, .inl (fun _ => 0)), .inl (g.2.2 0, 192, .inl (fun _ => 0))] H := hE
  refine zs_put (k := 0) (f := 16) (v := .ref (a + 13)) (ty := .array .int) S hK hE hS (Nat.le_refl _) hin rfl rfl rfl (by decide) wf_X2_48 rfl rfl (by decide +kernel) rfl rfl (Nat.le_of_ble_eq_true rfl) dX2_init_106 (fun H locs hE hS => ?_)
  have hE : zSeg g a [.inr (2, [.int 0, .int 0, .int 0, .int 0, .ref (a + 1), .ref (a + 2), .ref (a + 3), .ref (a + 4), .ref (a + 5), .ref (a + 6), .ref (a + 7), .ref (a + 8), .ref (a + 9), .ref (a + 10), .ref (a + 11), .ref (a + 12), .ref (a + 13)]), .inl (g.2.2 0, 6, .inl (fun _ => 0)), .inl (g.2.2 0, 6, .inl (fun _ => 0)), .inl (g.2.2 0, 6, .inl (fun _ => 0)), .inl (g.2.2 0, 6, .inl (fun _ => 0)), .inl (g.2.2 0, 6, .inl (fun _ => 0)), .inl (g.2.2 0, 6, .inl (fun _ => 0)), .inl (g.2.2 0, 6, .inl (fun _ => 0)), .inl (g.2.2 0, 6, .inl (fun _ => 0)), .inl (g.2.2 0, 6, .inl (fun _ => 0)), .inl (g.2.2 0, 6, .inl (fun _ => 0)), .inl (g.2.2 0, 6, .inl (fun _ => 0)), .inl (g.2.2 0, 6, .inl (fun _ => 0)), .inl (g.2.2 0, 192, .inl (fun _ => 0))] H := hE
  refine W.widen (k := 13) (n := 264) (by decide) (by decide) ?_
  exact zs_vret S hr hlk hE hS dX2_init_109
theorem dfX5 : ∀ j, j < 5 → defaultValue (tyX5 j) = vp_V [.null, .null, .null, .null, .int 0] j := by
  intro j hj
  have h : j = 0 ∨ j = 1 ∨ j = 2 ∨ j = 3 ∨ j = 4 := by omega
  rcases h with rfl | rfl | rfl | rfl | rfl <;> rfl
def zeWeave (g : zGeo) (a : Nat) : List va_E := [.inr (5, [.ref (a + 1), .ref (a + 2), .ref (a + 3), .ref (a + 4), .int 0]), .inl (g.2.2 0, 30, .inl (fun _ => 0)), .inl (g.2.2 0, 30, .inl (fun _ => 0)), .inl (g.2.2 0, 30, .inl (fun _ => 0)), .inl (g.2.2 1, 30, .inl (fun _ => 0))]
theorem hX5_init : yX5_init.cls ≠ "java/lang/invoke/MethodHandle" ∧ yX5_init.cls ≠ "java/lang/invoke/VarHandle" ∧ (parseMethodDescriptor yX5_init.desc).map (fun d => d.parameters.length) = some 0 := by decide +kernel
set_option maxRecDepth 100000 in
set_option maxHeartbeats 8000000 in
theorem kX5_init (l : Launch) {g : zGeo} (a : Nat) : Met l yX5_init [.code yX5_init cX5_init 1 none] { frames := 1, cells := 4, slots := 120, locals := 40 } (zPi g a [.inr (5, [.null, .null, .null, .null, .int 0])]) (zQn g a (zeWeave g a)) 4 120 (zS a) := by
  refine zi_enter (cc := cX5_init) (maxL := 1) (by decide) rfl rfl (by decide) ?_
  intro p e s m below meth c S hr hlk hin hK hE hS ls hl
  have S : CallFix p m c cX5_init 1 s _ zT RX5 := S
  refine lv_aload_n S.1 S.2.1 dX5_init_0 rfl (lv_at hl 0 rfl) ?_
  refine W.objInit S.1 S.2.1 S.2.2.2.1 (S.2.2.2.2 _ wm_X5_3) (S.2.2.2.2 _ wv_JO_init) (S.2.2.2.2 _ wk_JO_init) rfl (by rw [S.2.2.1]; exact hl.1) rfl dX5_init_1 (Nat.le_of_ble_eq_true rfl) (Nat.le_of_ble_eq_true rfl) ?_
  refine W.eq (g2 := F0 m 4 ls []) rfl ?_
  refine lv_aload_n S.1 S.2.1 dX5_init_4 rfl (lv_at hl 0 rfl) ?_
  refine lv_bipush (v := 30) S.1 S.2.1 dX5_init_5 (by decide) ?_
  refine zs_newa (atype := .int) (t := 0) (N := 30) (b := a + 1) S hK hE hS wa_FieldTypeint (hK.1.1.2 0 _ rfl).2 rfl (by decide) (by decide) (by decide) rfl (Nat.le_of_ble_eq_true rfl) (Nat.le_of_ble_eq_true rfl) dX5_init_7 (fun H hE hS => ?_)
  have hE : zSeg g a [.inr (5, [.null, .null, .null, .null, .int 0]), .inl (g.2.2 0, 30, .inl (fun _ => 0))] H := hE
  refine zs_put (k := 0) (f := 0) (v := .ref (a + 1)) (ty := .array .int) S hK hE hS (Nat.le_refl _) hin rfl rfl rfl (by decide) wf_X5_11 rfl rfl (by decide +kernel) rfl rfl (Nat.le_of_ble_eq_true rfl) dX5_init_9 (fun H locs hE hS => ?_)
  have hE : zSeg g a [.inr (5, [.ref (a + 1), .null, .null, .null, .int 0]), .inl (g.2.2 0, 30, .inl (fun _ => 0))] H := hE
  refine lv_aload_n S.1 S.2.1 dX5_init_12 rfl (lv_at hl 0 rfl) ?_
  refine lv_bipush (v := 30) S.1 S.2.1 dX5_init_13 (by decide) ?_
  refine zs_newa (atype := .int) (t := 0) (N := 30) (b := a + 2) S hK hE hS wa_FieldTypeint (hK.1.1.2 0 _ rfl).2 rfl (by decide) (by decide) (by decide) rfl (Nat.le_of_ble_eq_true rfl) (Nat.le_of_ble_eq_true rfl) dX5_init_15 (fun H hE hS => ?_)
  have hE : zSeg g a [.inr (5, [.ref (a + 1), .null, .null, .null, .int 0]), .inl (g.2.2 0, 30, .inl (fun _ => 0)), .inl (g.2.2 0, 30, .inl (fun _ => 0))] H := hE
  refine zs_put (k := 0) (f := 1) (v := .ref (a + 2)) (ty := .array .int) S hK hE hS (Nat.le_refl _) hin rfl rfl rfl (by decide) wf_X5_15 rfl rfl (by decide +kernel) rfl rfl (Nat.le_of_ble_eq_true rfl) dX5_init_17 (fun H locs hE hS => ?_)
  have hE : zSeg g a [.inr (5, [.ref (a + 1), .ref (a + 2), .null, .null, .int 0]), .inl (g.2.2 0, 30, .inl (fun _ => 0)), .inl (g.2.2 0, 30, .inl (fun _ => 0))] H := hE
  refine lv_aload_n S.1 S.2.1 dX5_init_20 rfl (lv_at hl 0 rfl) ?_
  refine lv_bipush (v := 30) S.1 S.2.1 dX5_init_21 (by decide) ?_
  refine zs_newa (atype := .int) (t := 0) (N := 30) (b := a + 3) S hK hE hS wa_FieldTypeint (hK.1.1.2 0 _ rfl).2 rfl (by decide) (by decide) (by decide) rfl (Nat.le_of_ble_eq_true rfl) (Nat.le_of_ble_eq_true rfl) dX5_init_23 (fun H hE hS => ?_)
  have hE : zSeg g a [.inr (5, [.ref (a + 1), .ref (a + 2), .null, .null, .int 0]), .inl (g.2.2 0, 30, .inl (fun _ => 0)), .inl (g.2.2 0, 30, .inl (fun _ => 0)), .inl (g.2.2 0, 30, .inl (fun _ => 0))] H := hE
  refine zs_put (k := 0) (f := 2) (v := .ref (a + 3)) (ty := .array .int) S hK hE hS (Nat.le_refl _) hin rfl rfl rfl (by decide) wf_X5_18 rfl rfl (by decide +kernel) rfl rfl (Nat.le_of_ble_eq_true rfl) dX5_init_25 (fun H locs hE hS => ?_)
  have hE : zSeg g a [.inr (5, [.ref (a + 1), .ref (a + 2), .ref (a + 3), .null, .int 0]), .inl (g.2.2 0, 30, .inl (fun _ => 0)), .inl (g.2.2 0, 30, .inl (fun _ => 0)), .inl (g.2.2 0, 30, .inl (fun _ => 0))] H := hE
  refine lv_aload_n S.1 S.2.1 dX5_init_28 rfl (lv_at hl 0 rfl) ?_
  refine lv_bipush (v := 30) S.1 S.2.1 dX5_init_29 (by decide) ?_
  refine zs_newa (atype := .boolean) (t := 1) (N := 30) (b := a + 4) S hK hE hS wa_dTypeboolean (hK.1.1.2 1 _ rfl).2 rfl (by decide) (by decide) (by decide) rfl (Nat.le_of_ble_eq_true rfl) (Nat.le_of_ble_eq_true rfl) dX5_init_31 (fun H hE hS => ?_)
  have hE : zSeg g a [.inr (5, [.ref (a + 1), .ref (a + 2), .ref (a + 3), .null, .int 0]), .inl (g.2.2 0, 30, .inl (fun _ => 0)), .inl (g.2.2 0, 30, .inl (fun _ => 0)), .inl (g.2.2 0, 30, .inl (fun _ => 0)), .inl (g.2.2 1, 30, .inl (fun _ => 0))] H := hE
  refine zs_put (k := 0) (f := 3) (v := .ref (a + 4)) (ty := .array .boolean) S hK hE hS (Nat.le_refl _) hin rfl rfl rfl (by decide) wf_X5_21 rfl rfl (by decide +kernel) rfl rfl (Nat.le_of_ble_eq_true rfl) dX5_init_33 (fun H locs hE hS => ?_)
  have hE : zSeg g a [.inr (5, [.ref (a + 1), .ref (a + 2), .ref (a + 3), .ref (a + 4), .int 0]), .inl (g.2.2 0, 30, .inl (fun _ => 0)), .inl (g.2.2 0, 30, .inl (fun _ => 0)), .inl (g.2.2 0, 30, .inl (fun _ => 0)), .inl (g.2.2 1, 30, .inl (fun _ => 0))] H := hE
  refine W.widen (k := 4) (n := 120) (by decide) (by decide) ?_
  exact zs_vret S hr hlk hE hS dX5_init_36
theorem dfX4 : ∀ j, j < 3 → defaultValue (tyX4 j) = vp_V [.null, .int 0, .int 0] j := by
  intro j hj
  have h : j = 0 ∨ j = 1 ∨ j = 2 := by omega
  rcases h with rfl | rfl | rfl <;> rfl
def zeTick (g : zGeo) (a : Nat) : List va_E := ([.inr (4, [.ref (a + 1), .int 0, .int 0])] ++ zeWeave g (a + 1))
theorem hX4_init : yX4_init.cls ≠ "java/lang/invoke/MethodHandle" ∧ yX4_init.cls ≠ "java/lang/invoke/VarHandle" ∧ (parseMethodDescriptor yX4_init.desc).map (fun d => d.parameters.length) = some 0 := by decide +kernel
set_option maxRecDepth 100000 in
set_option maxHeartbeats 8000000 in
theorem kX4_init (l : Launch) {g : zGeo} (a : Nat) : Met l yX4_init [.code yX4_init cX4_init 1 none] { frames := 2, cells := 5, slots := 125, locals := 60 } (zPi g a [.inr (4, [.null, .int 0, .int 0])]) (zQn g a (zeTick g a)) 5 125 (zS a) := by
  refine zi_enter (cc := cX4_init) (maxL := 1) (by decide) rfl rfl (by decide) ?_
  intro p e s m below meth c S hr hlk hin hK hE hS ls hl
  have S : CallFix p m c cX4_init 1 s _ zT RX4 := S
  refine lv_aload_n S.1 S.2.1 dX4_init_0 rfl (lv_at hl 0 rfl) ?_
  refine W.objInit S.1 S.2.1 S.2.2.2.1 (S.2.2.2.2 _ wm_X4_3) (S.2.2.2.2 _ wv_JO_init) (S.2.2.2.2 _ wk_JO_init) rfl (by rw [S.2.2.1]; exact hl.1) rfl dX4_init_1 (Nat.le_of_ble_eq_true rfl) (Nat.le_of_ble_eq_true rfl) ?_
  refine W.eq (g2 := F0 m 4 ls []) rfl ?_
  refine lv_aload_n S.1 S.2.1 dX4_init_4 rfl (lv_at hl 0 rfl) ?_
  refine zs_new (ci := 5) (fs := [.null, .null, .null, .null, .int 0]) (b := a + 1) S hK hE hS rfl wc_X4_9 wn_X5 wi_X5 tyX5 tyX5_ok dfX5 rfl (Nat.le_of_ble_eq_true rfl) (Nat.le_of_ble_eq_true rfl) dX4_init_5 (fun H hE hS => ?_)
  have hE : zSeg g a [.inr (4, [.null, .int 0, .int 0]), .inr (5, [.null, .null, .null, .null, .int 0])] H := hE
  refine lv_dup S.1 S.2.1 dX4_init_8 rfl ?_
  have hE : zSeg g a ([.inr (4, [.null, .int 0, .int 0])] ++ [.inr (5, [.null, .null, .null, .null, .int 0])]) H := hE
  refine zs_ctor (es := [.inr (4, [.null, .int 0, .int 0])]) (e0 := .inr (5, [.null, .null, .null, .null, .int 0])) (b := a + 1) (ns := zeWeave g (a + 1)) S hK hE hS (Nat.le_refl _) rfl (kX5_init l (a + 1)) rfl rfl ⟨Nat.le_of_ble_eq_true rfl, Nat.le_of_ble_eq_true rfl⟩ wm_X4_11 wv_X5_init wi_X5 wk_X5_init rfl hX5_init hl.1 (Nat.le_of_ble_eq_true rfl) dX4_init_9 ⟨Nat.le_of_ble_eq_true rfl, Nat.le_of_ble_eq_true rfl⟩ (fun H locs hE hS => ?_)
  have hE : zSeg g a ([.inr (4, [.null, .int 0, .int 0])] ++ zeWeave g (a + 1)) H := hE
  refine zs_put (k := 0) (f := 0) (v := .ref (a + 1)) (ty := .object "KiteStrings$Weave") S hK hE hS (Nat.le_refl _) hin rfl rfl rfl (by decide) wf_X4_12 rfl rfl (by decide +kernel) rfl rfl (Nat.le_of_ble_eq_true rfl) dX4_init_12 (fun H locs hE hS => ?_)
  have hE : zSeg g a ([.inr (4, [.ref (a + 1), .int 0, .int 0])] ++ zeWeave g (a + 1)) H := hE
  refine W.widen (k := 5) (n := 125) (by decide) (by decide) ?_
  exact zs_vret S hr hlk hE hS dX4_init_15
theorem dfX0 : ∀ j, j < 3 → defaultValue (tyX0 j) = vp_V [.null, .int 0, .int 0] j := by
  intro j hj
  have h : j = 0 ∨ j = 1 ∨ j = 2 := by omega
  rcases h with rfl | rfl | rfl <;> rfl
def zeHist (g : zGeo) (a : Nat) : List va_E := (((((([.inr (0, [.ref (a + 1), .int 0, .int 0]), .inl (g.2.2 3, 6, .inr (.inr (.inr (.inr (va_up (va_up (va_up (va_up (va_up (va_up (fun _ => none) (zN 0) (some (a + 2))) (zN 1) (some (a + 16))) (zN 2) (some (a + 30))) (zN 3) (some (a + 44))) (zN 4) (some (a + 58))) (zN 5) (some (a + 72)))))))] ++ zeSky g (a + 2)) ++ zeSky g (a + 16)) ++ zeSky g (a + 30)) ++ zeSky g (a + 44)) ++ zeSky g (a + 58)) ++ zeSky g (a + 72))
theorem hX0_init : yX0_init.cls ≠ "java/lang/invoke/MethodHandle" ∧ yX0_init.cls ≠ "java/lang/invoke/VarHandle" ∧ (parseMethodDescriptor yX0_init.desc).map (fun d => d.parameters.length) = some 0 := by decide +kernel
set_option maxRecDepth 100000 in
set_option maxHeartbeats 8000000 in
theorem kX0_init (l : Launch) {g : zGeo} (a : Nat) : Met l yX0_init [.code yX0_init cX0_init 2 none] { frames := 2, cells := 85, slots := 1692, locals := 60 } (zPi g a [.inr (0, [.null, .int 0, .int 0])]) (zQn g a (zeHist g a)) 85 1692 (zS a) := by
  refine zi_enter (cc := cX0_init) (maxL := 2) (by decide) rfl rfl (by decide) ?_
  intro p e s m below meth c S hr hlk hin hK hE hS ls hl
  have S : CallFix p m c cX0_init 2 s _ zT RX0 := S
  refine lv_aload_n S.1 S.2.1 dX0_init_0 rfl (lv_at hl 0 rfl) ?_
  refine W.objInit S.1 S.2.1 S.2.2.2.1 (S.2.2.2.2 _ wm_X0_3) (S.2.2.2.2 _ wv_JO_init) (S.2.2.2.2 _ wk_JO_init) rfl (by rw [S.2.2.1]; exact hl.1) rfl dX0_init_1 (Nat.le_of_ble_eq_true rfl) (Nat.le_of_ble_eq_true rfl) ?_
  refine W.eq (g2 := F0 m 4 ls []) rfl ?_
  refine lv_aload_n S.1 S.2.1 dX0_init_4 rfl (lv_at hl 0 rfl) ?_
  refine lv_bipush (v := 6) S.1 S.2.1 dX0_init_5 (by decide) ?_
  refine zs_newq (N := 6) (b := a + 1) S hK hE hS wc_X0_9 (by decide) (by decide) (by decide) rfl (Nat.le_of_ble_eq_true rfl) (Nat.le_of_ble_eq_true rfl) dX0_init_7 (fun H hE hS => ?_)
  have hE : zSeg g a [.inr (0, [.null, .int 0, .int 0]), .inl (g.2.2 3, 6, .inr (.inr (.inr (.inr (fun _ => none)))))] H := hE
  refine zs_put (k := 0) (f := 0) (v := .ref (a + 1)) (ty := .array (.object "KiteStrings$Sky")) S hK hE hS (Nat.le_refl _) hin rfl rfl rfl (by decide) wf_X0_11 rfl rfl (by decide +kernel) rfl rfl (Nat.le_of_ble_eq_true rfl) dX0_init_10 (fun H locs hE hS => ?_)
  have hE : zSeg g a [.inr (0, [.ref (a + 1), .int 0, .int 0]), .inl (g.2.2 3, 6, .inr (.inr (.inr (.inr (fun _ => none)))))] H := hE
  refine lv_iconst (v := 0) S.1 S.2.1 dX0_init_13 (by decide) ?_
  refine lv_istore_n (lv' := [(1, .int 0), (0, .ref a)]) S.1 S.2.1 dX0_init_14 rfl hl (by decide) rfl (fun ls hl => ?_)
  refine lv_iload_n S.1 S.2.1 dX0_init_15 rfl (lv_at hl 0 rfl) ?_
  refine lv_bipush (v := 6) S.1 S.2.1 dX0_init_16 (by decide) ?_
  refine lv_icmp_ge (tgt := 40) S.1 S.2.1 dX0_init_18 (by decide) (fun hc => absurd hc (by decide)) (fun _ => ?_)
  refine lv_aload_n S.1 S.2.1 dX0_init_21 rfl (lv_at hl 1 rfl) ?_
  refine zs_get (k := 0) (f := 0) (v := .ref (a + 1)) S hK hE rfl rfl rfl (by decide) wf_X0_11 rfl dX0_init_22 ?_
  refine lv_iload_n S.1 S.2.1 dX0_init_25 rfl (lv_at hl 0 rfl) ?_
  refine zs_new (ci := 2) (fs := [.int 0, .int 0, .int 0, .int 0, .null, .null, .null, .null, .null, .null, .null, .null, .null, .null, .null, .null, .null]) (b := a + 2) S hK hE hS rfl wc_X0_9 wn_X2 wi_X2 tyX2 tyX2_ok dfX2 rfl (Nat.le_of_ble_eq_true rfl) (Nat.le_of_ble_eq_true rfl) dX0_init_26 (fun H hE hS => ?_)
  have hE : zSeg g a [.inr (0, [.ref (a + 1), .int 0, .int 0]), .inl (g.2.2 3, 6, .inr (.inr (.inr (.inr (fun _ => none))))), .inr (2, [.int 0, .int 0, .int 0, .int 0, .null, .null, .null, .null, .null, .null, .null, .null, .null, .null, .null, .null, .null])] H := hE
  refine lv_dup S.1 S.2.1 dX0_init_29 rfl ?_
  have hE : zSeg g a ([.inr (0, [.ref (a + 1), .int 0, .int 0]), .inl (g.2.2 3, 6, .inr (.inr (.inr (.inr (fun _ => none)))))] ++ [.inr (2, [.int 0, .int 0, .int 0, .int 0, .null, .null, .null, .null, .null, .null, .null, .null, .null, .null, .null, .null, .null])]) H := hE
  refine zs_ctor (es := [.inr (0, [.ref (a + 1), .int 0, .int 0]), .inl (g.2.2 3, 6, .inr (.inr (.inr (.inr (fun _ => none)))))]) (e0 := .inr (2, [.int 0, .int 0, .int 0, .int 0, .null, .null, .null, .null, .null, .null, .null, .null, .null, .null, .null, .null, .null])) (b := a + 2) (ns := zeSky g (a + 2)) S hK hE hS (Nat.le_refl _) rfl (kX2_init l (a + 2)) rfl rfl ⟨Nat.le_of_ble_eq_true rfl, Nat.le_of_ble_eq_true rfl⟩ wm_X0_17 wv_X2_init wi_X2 wk_X2_init rfl hX2_init hl.1 (Nat.le_of_ble_eq_true rfl) dX0_init_30 ⟨Nat.le_of_ble_eq_true rfl, Nat.le_of_ble_eq_true rfl⟩ (fun H locs hE hS => ?_)
  have hE : zSeg g a ([.inr (0, [.ref (a + 1), .int 0, .int 0]), .inl (g.2.2 3, 6, .inr (.inr (.inr (.inr (fun _ => none)))))] ++ zeSky g (a + 2)) H := hE
  refine zs_aast (k := 1) (qk := 2) (b2 := a + 2) (vs := [.int 0, .int 0, .int 0, .int 0, .ref (a + 2 + 1), .ref (a + 2 + 2), .ref (a + 2 + 3), .ref (a + 2 + 4), .ref (a + 2 + 5), .ref (a + 2 + 6), .ref (a + 2 + 7), .ref (a + 2 + 8), .ref (a + 2 + 9), .ref (a + 2 + 10), .ref (a + 2 + 11), .ref (a + 2 + 12), .ref (a + 2 + 13)]) S hK hE hS (Nat.le_refl _) rfl rfl rfl rfl (by decide) dX0_init_33 (fun H locs hE hS => ?_)
  have hE : zSeg g a ([.inr (0, [.ref (a + 1), .int 0, .int 0]), .inl (g.2.2 3, 6, .inr (.inr (.inr (.inr (va_up (fun _ => none) (zN 0) (some (a + 2)))))))] ++ zeSky g (a + 2)) H := hE
  refine lv_iinc (v := 1) (lv' := [(1, .int 1), (0, .ref a)]) S.1 S.2.1 dX0_init_34 hl (k := 0) rfl (by decide) (by decide) rfl (fun ls hl => ?_)
  refine lv_goto (tgt := 15) S.1 S.2.1 dX0_init_37 (by decide) ?_
  refine lv_iload_n S.1 S.2.1 dX0_init_15 rfl (lv_at hl 0 rfl) ?_
  refine lv_bipush (v := 6) S.1 S.2.1 dX0_init_16 (by decide) ?_
  refine lv_icmp_ge (tgt := 40) S.1 S.2.1 dX0_init_18 (by decide) (fun hc => absurd hc (by decide)) (fun _ => ?_)
  refine lv_aload_n S.1 S.2.1 dX0_init_21 rfl (lv_at hl 1 rfl) ?_
  refine zs_get (k := 0) (f := 0) (v := .ref (a + 1)) S hK hE rfl rfl rfl (by decide) wf_X0_11 rfl dX0_init_22 ?_
  refine lv_iload_n S.1 S.2.1 dX0_init_25 rfl (lv_at hl 0 rfl) ?_
  refine zs_new (ci := 2) (fs := [.int 0, .int 0, .int 0, .int 0, .null, .null, .null, .null, .null, .null, .null, .null, .null, .null, .null, .null, .null]) (b := a + 16) S hK hE hS rfl wc_X0_9 wn_X2 wi_X2 tyX2 tyX2_ok dfX2 rfl (Nat.le_of_ble_eq_true rfl) (Nat.le_of_ble_eq_true rfl) dX0_init_26 (fun H hE hS => ?_)
  have hE : zSeg g a (([.inr (0, [.ref (a + 1), .int 0, .int 0]), .inl (g.2.2 3, 6, .inr (.inr (.inr (.inr (va_up (fun _ => none) (zN 0) (some (a + 2)))))))] ++ zeSky g (a + 2)) ++ [.inr (2, [.int 0, .int 0, .int 0, .int 0, .null, .null, .null, .null, .null, .null, .null, .null, .null, .null, .null, .null, .null])]) H := hE
  refine lv_dup S.1 S.2.1 dX0_init_29 rfl ?_
  have hE : zSeg g a (([.inr (0, [.ref (a + 1), .int 0, .int 0]), .inl (g.2.2 3, 6, .inr (.inr (.inr (.inr (va_up (fun _ => none) (zN 0) (some (a + 2)))))))] ++ zeSky g (a + 2)) ++ [.inr (2, [.int 0, .int 0, .int 0, .int 0, .null, .null, .null, .null, .null, .null, .null, .null, .null, .null, .null, .null, .null])]) H := hE
  refine zs_ctor (es := ([.inr (0, [.ref (a + 1), .int 0, .int 0]), .inl (g.2.2 3, 6, .inr (.inr (.inr (.inr (va_up (fun _ => none) (zN 0) (some (a + 2)))))))] ++ zeSky g (a + 2))) (e0 := .inr (2, [.int 0, .int 0, .int 0, .int 0, .null, .null, .null, .null, .null, .null, .null, .null, .null, .null, .null, .null, .null])) (b := a + 16) (ns := zeSky g (a + 16)) S hK hE hS (Nat.le_refl _) rfl (kX2_init l (a + 16)) rfl rfl ⟨Nat.le_of_ble_eq_true rfl, Nat.le_of_ble_eq_true rfl⟩ wm_X0_17 wv_X2_init wi_X2 wk_X2_init rfl hX2_init hl.1 (Nat.le_of_ble_eq_true rfl) dX0_init_30 ⟨Nat.le_of_ble_eq_true rfl, Nat.le_of_ble_eq_true rfl⟩ (fun H locs hE hS => ?_)
  have hE : zSeg g a (([.inr (0, [.ref (a + 1), .int 0, .int 0]), .inl (g.2.2 3, 6, .inr (.inr (.inr (.inr (va_up (fun _ => none) (zN 0) (some (a + 2)))))))] ++ zeSky g (a + 2)) ++ zeSky g (a + 16)) H := hE
  refine zs_aast (k := 1) (qk := 16) (b2 := a + 16) (vs := [.int 0, .int 0, .int 0, .int 0, .ref (a + 16 + 1), .ref (a + 16 + 2), .ref (a + 16 + 3), .ref (a + 16 + 4), .ref (a + 16 + 5), .ref (a + 16 + 6), .ref (a + 16 + 7), .ref (a + 16 + 8), .ref (a + 16 + 9), .ref (a + 16 + 10), .ref (a + 16 + 11), .ref (a + 16 + 12), .ref (a + 16 + 13)]) S hK hE hS (Nat.le_refl _) rfl rfl rfl rfl (by decide) dX0_init_33 (fun H locs hE hS => ?_)
  have hE : zSeg g a (([.inr (0, [.ref (a + 1), .int 0, .int 0]), .inl (g.2.2 3, 6, .inr (.inr (.inr (.inr (va_up (va_up (fun _ => none) (zN 0) (some (a + 2))) (zN 1) (some (a + 16)))))))] ++ zeSky g (a + 2)) ++ zeSky g (a + 16)) H := hE
  refine lv_iinc (v := 2) (lv' := [(1, .int 2), (0, .ref a)]) S.1 S.2.1 dX0_init_34 hl (k := 0) rfl (by decide) (by decide) rfl (fun ls hl => ?_)
  refine lv_goto (tgt := 15) S.1 S.2.1 dX0_init_37 (by decide) ?_
  refine lv_iload_n S.1 S.2.1 dX0_init_15 rfl (lv_at hl 0 rfl) ?_
  refine lv_bipush (v := 6) S.1 S.2.1 dX0_init_16 (by decide) ?_
  refine lv_icmp_ge (tgt := 40) S.1 S.2.1 dX0_init_18 (by decide) (fun hc => absurd hc (by decide)) (fun _ => ?_)
  refine lv_aload_n S.1 S.2.1 dX0_init_21 rfl (lv_at hl 1 rfl) ?_
  refine zs_get (k := 0) (f := 0) (v := .ref (a + 1)) S hK hE rfl rfl rfl (by decide) wf_X0_11 rfl dX0_init_22 ?_
  refine lv_iload_n S.1 S.2.1 dX0_init_25 rfl (lv_at hl 0 rfl) ?_
  refine zs_new (ci := 2) (fs := [.int 0, .int 0, .int 0, .int 0, .null, .null, .null, .null, .null, .null, .null, .null, .null, .null, .null, .null, .null]) (b := a + 30) S hK hE hS rfl wc_X0_9 wn_X2 wi_X2 tyX2 tyX2_ok dfX2 rfl (Nat.le_of_ble_eq_true rfl) (Nat.le_of_ble_eq_true rfl) dX0_init_26 (fun H hE hS => ?_)
  have hE : zSeg g a ((([.inr (0, [.ref (a + 1), .int 0, .int 0]), .inl (g.2.2 3, 6, .inr (.inr (.inr (.inr (va_up (va_up (fun _ => none) (zN 0) (some (a + 2))) (zN 1) (some (a + 16)))))))] ++ zeSky g (a + 2)) ++ zeSky g (a + 16)) ++ [.inr (2, [.int 0, .int 0, .int 0, .int 0, .null, .null, .null, .null, .null, .null, .null, .null, .null, .null, .null, .null, .null])]) H := hE
  refine lv_dup S.1 S.2.1 dX0_init_29 rfl ?_
  have hE : zSeg g a ((([.inr (0, [.ref (a + 1), .int 0, .int 0]), .inl (g.2.2 3, 6, .inr (.inr (.inr (.inr (va_up (va_up (fun _ => none) (zN 0) (some (a + 2))) (zN 1) (some (a + 16)))))))] ++ zeSky g (a + 2)) ++ zeSky g (a + 16)) ++ [.inr (2, [.int 0, .int 0, .int 0, .int 0, .null, .null, .null, .null, .null, .null, .null, .null, .null, .null, .null, .null, .null])]) H := hE
  refine zs_ctor (es := (([.inr (0, [.ref (a + 1), .int 0, .int 0]), .inl (g.2.2 3, 6, .inr (.inr (.inr (.inr (va_up (va_up (fun _ => none) (zN 0) (some (a + 2))) (zN 1) (some (a + 16)))))))] ++ zeSky g (a + 2)) ++ zeSky g (a + 16))) (e0 := .inr (2, [.int 0, .int 0, .int 0, .int 0, .null, .null, .null, .null, .null, .null, .null, .null, .null, .null, .null, .null, .null])) (b := a + 30) (ns := zeSky g (a + 30)) S hK hE hS (Nat.le_refl _) rfl (kX2_init l (a + 30)) rfl rfl ⟨Nat.le_of_ble_eq_true rfl, Nat.le_of_ble_eq_true rfl⟩ wm_X0_17 wv_X2_init wi_X2 wk_X2_init rfl hX2_init hl.1 (Nat.le_of_ble_eq_true rfl) dX0_init_30 ⟨Nat.le_of_ble_eq_true rfl, Nat.le_of_ble_eq_true rfl⟩ (fun H locs hE hS => ?_)
  have hE : zSeg g a ((([.inr (0, [.ref (a + 1), .int 0, .int 0]), .inl (g.2.2 3, 6, .inr (.inr (.inr (.inr (va_up (va_up (fun _ => none) (zN 0) (some (a + 2))) (zN 1) (some (a + 16)))))))] ++ zeSky g (a + 2)) ++ zeSky g (a + 16)) ++ zeSky g (a + 30)) H := hE
  refine zs_aast (k := 1) (qk := 30) (b2 := a + 30) (vs := [.int 0, .int 0, .int 0, .int 0, .ref (a + 30 + 1), .ref (a + 30 + 2), .ref (a + 30 + 3), .ref (a + 30 + 4), .ref (a + 30 + 5), .ref (a + 30 + 6), .ref (a + 30 + 7), .ref (a + 30 + 8), .ref (a + 30 + 9), .ref (a + 30 + 10), .ref (a + 30 + 11), .ref (a + 30 + 12), .ref (a + 30 + 13)]) S hK hE hS (Nat.le_refl _) rfl rfl rfl rfl (by decide) dX0_init_33 (fun H locs hE hS => ?_)
  have hE : zSeg g a ((([.inr (0, [.ref (a + 1), .int 0, .int 0]), .inl (g.2.2 3, 6, .inr (.inr (.inr (.inr (va_up (va_up (va_up (fun _ => none) (zN 0) (some (a + 2))) (zN 1) (some (a + 16))) (zN 2) (some (a + 30)))))))] ++ zeSky g (a + 2)) ++ zeSky g (a + 16)) ++ zeSky g (a + 30)) H := hE
  refine lv_iinc (v := 3) (lv' := [(1, .int 3), (0, .ref a)]) S.1 S.2.1 dX0_init_34 hl (k := 0) rfl (by decide) (by decide) rfl (fun ls hl => ?_)
  refine lv_goto (tgt := 15) S.1 S.2.1 dX0_init_37 (by decide) ?_
  refine lv_iload_n S.1 S.2.1 dX0_init_15 rfl (lv_at hl 0 rfl) ?_
  refine lv_bipush (v := 6) S.1 S.2.1 dX0_init_16 (by decide) ?_
  refine lv_icmp_ge (tgt := 40) S.1 S.2.1 dX0_init_18 (by decide) (fun hc => absurd hc (by decide)) (fun _ => ?_)
  refine lv_aload_n S.1 S.2.1 dX0_init_21 rfl (lv_at hl 1 rfl) ?_
  refine zs_get (k := 0) (f := 0) (v := .ref (a + 1)) S hK hE rfl rfl rfl (by decide) wf_X0_11 rfl dX0_init_22 ?_
  refine lv_iload_n S.1 S.2.1 dX0_init_25 rfl (lv_at hl 0 rfl) ?_
  refine zs_new (ci := 2) (fs := [.int 0, .int 0, .int 0, .int 0, .null, .null, .null, .null, .null, .null, .null, .null, .null, .null, .null, .null, .null]) (b := a + 44) S hK hE hS rfl wc_X0_9 wn_X2 wi_X2 tyX2 tyX2_ok dfX2 rfl (Nat.le_of_ble_eq_true rfl) (Nat.le_of_ble_eq_true rfl) dX0_init_26 (fun H hE hS => ?_)
  have hE : zSeg g a (((([.inr (0, [.ref (a + 1), .int 0, .int 0]), .inl (g.2.2 3, 6, .inr (.inr (.inr (.inr (va_up (va_up (va_up (fun _ => none) (zN 0) (some (a + 2))) (zN 1) (some (a + 16))) (zN 2) (some (a + 30)))))))] ++ zeSky g (a + 2)) ++ zeSky g (a + 16)) ++ zeSky g (a + 30)) ++ [.inr (2, [.int 0, .int 0, .int 0, .int 0, .null, .null, .null, .null, .null, .null, .null, .null, .null, .null, .null, .null, .null])]) H := hE
  refine lv_dup S.1 S.2.1 dX0_init_29 rfl ?_
  have hE : zSeg g a (((([.inr (0, [.ref (a + 1), .int 0, .int 0]), .inl (g.2.2 3, 6, .inr (.inr (.inr (.inr (va_up (va_up (va_up (fun _ => none) (zN 0) (some (a + 2))) (zN 1) (some (a + 16))) (zN 2) (some (a + 30)))))))] ++ zeSky g (a + 2)) ++ zeSky g (a + 16)) ++ zeSky g (a + 30)) ++ [.inr (2, [.int 0, .int 0, .int 0, .int 0, .null, .null, .null, .null, .null, .null, .null, .null, .null, .null, .null, .null, .null])]) H := hE
  refine zs_ctor (es := ((([.inr (0, [.ref (a + 1), .int 0, .int 0]), .inl (g.2.2 3, 6, .inr (.inr (.inr (.inr (va_up (va_up (va_up (fun _ => none) (zN 0) (some (a + 2))) (zN 1) (some (a + 16))) (zN 2) (some (a + 30)))))))] ++ zeSky g (a + 2)) ++ zeSky g (a + 16)) ++ zeSky g (a + 30))) (e0 := .inr (2, [.int 0, .int 0, .int 0, .int 0, .null, .null, .null, .null, .null, .null, .null, .null, .null, .null, .null, .null, .null])) (b := a + 44) (ns := zeSky g (a + 44)) S hK hE hS (Nat.le_refl _) rfl (kX2_init l (a + 44)) rfl rfl ⟨Nat.le_of_ble_eq_true rfl, Nat.le_of_ble_eq_true rfl⟩ wm_X0_17 wv_X2_init wi_X2 wk_X2_init rfl hX2_init hl.1 (Nat.le_of_ble_eq_true rfl) dX0_init_30 ⟨Nat.le_of_ble_eq_true rfl, Nat.le_of_ble_eq_true rfl⟩ (fun H locs hE hS => ?_)
  have hE : zSeg g a (((([.inr (0, [.ref (a + 1), .int 0, .int 0]), .inl (g.2.2 3, 6, .inr (.inr (.inr (.inr (va_up (va_up (va_up (fun _ => none) (zN 0) (some (a + 2))) (zN 1) (some (a + 16))) (zN 2) (some (a + 30)))))))] ++ zeSky g (a + 2)) ++ zeSky g (a + 16)) ++ zeSky g (a + 30)) ++ zeSky g (a + 44)) H := hE
  refine zs_aast (k := 1) (qk := 44) (b2 := a + 44) (vs := [.int 0, .int 0, .int 0, .int 0, .ref (a + 44 + 1), .ref (a + 44 + 2), .ref (a + 44 + 3), .ref (a + 44 + 4), .ref (a + 44 + 5), .ref (a + 44 + 6), .ref (a + 44 + 7), .ref (a + 44 + 8), .ref (a + 44 + 9), .ref (a + 44 + 10), .ref (a + 44 + 11), .ref (a + 44 + 12), .ref (a + 44 + 13)]) S hK hE hS (Nat.le_refl _) rfl rfl rfl rfl (by decide) dX0_init_33 (fun H locs hE hS => ?_)
  have hE : zSeg g a (((([.inr (0, [.ref (a + 1), .int 0, .int 0]), .inl (g.2.2 3, 6, .inr (.inr (.inr (.inr (va_up (va_up (va_up (va_up (fun _ => none) (zN 0) (some (a + 2))) (zN 1) (some (a + 16))) (zN 2) (some (a + 30))) (zN 3) (some (a + 44)))))))] ++ zeSky g (a + 2)) ++ zeSky g (a + 16)) ++ zeSky g (a + 30)) ++ zeSky g (a + 44)) H := hE
  refine lv_iinc (v := 4) (lv' := [(1, .int 4), (0, .ref a)]) S.1 S.2.1 dX0_init_34 hl (k := 0) rfl (by decide) (by decide) rfl (fun ls hl => ?_)
  refine lv_goto (tgt := 15) S.1 S.2.1 dX0_init_37 (by decide) ?_
  refine lv_iload_n S.1 S.2.1 dX0_init_15 rfl (lv_at hl 0 rfl) ?_
  refine lv_bipush (v := 6) S.1 S.2.1 dX0_init_16 (by decide) ?_
  refine lv_icmp_ge (tgt := 40) S.1 S.2.1 dX0_init_18 (by decide) (fun hc => absurd hc (by decide)) (fun _ => ?_)
  refine lv_aload_n S.1 S.2.1 dX0_init_21 rfl (lv_at hl 1 rfl) ?_
  refine zs_get (k := 0) (f := 0) (v := .ref (a + 1)) S hK hE rfl rfl rfl (by decide) wf_X0_11 rfl dX0_init_22 ?_
  refine lv_iload_n S.1 S.2.1 dX0_init_25 rfl (lv_at hl 0 rfl) ?_
  refine zs_new (ci := 2) (fs := [.int 0, .int 0, .int 0, .int 0, .null, .null, .null, .null, .null, .null, .null, .null, .null, .null, .null, .null, .null]) (b := a + 58) S hK hE hS rfl wc_X0_9 wn_X2 wi_X2 tyX2 tyX2_ok dfX2 rfl (Nat.le_of_ble_eq_true rfl) (Nat.le_of_ble_eq_true rfl) dX0_init_26 (fun H hE hS => ?_)
  have hE : zSeg g a ((((([.inr (0, [.ref (a + 1), .int 0, .int 0]), .inl (g.2.2 3, 6, .inr (.inr (.inr (.inr (va_up (va_up (va_up (va_up (fun _ => none) (zN 0) (some (a + 2))) (zN 1) (some (a + 16))) (zN 2) (some (a + 30))) (zN 3) (some (a + 44)))))))] ++ zeSky g (a + 2)) ++ zeSky g (a + 16)) ++ zeSky g (a + 30)) ++ zeSky g (a + 44)) ++ [.inr (2, [.int 0, .int 0, .int 0, .int 0, .null, .null, .null, .null, .null, .null, .null, .null, .null, .null, .null, .null, .null])]) H := hE
  refine lv_dup S.1 S.2.1 dX0_init_29 rfl ?_
  have hE : zSeg g a ((((([.inr (0, [.ref (a + 1), .int 0, .int 0]), .inl (g.2.2 3, 6, .inr (.inr (.inr (.inr (va_up (va_up (va_up (va_up (fun _ => none) (zN 0) (some (a + 2))) (zN 1) (some (a + 16))) (zN 2) (some (a + 30))) (zN 3) (some (a + 44)))))))] ++ zeSky g (a + 2)) ++ zeSky g (a + 16)) ++ zeSky g (a + 30)) ++ zeSky g (a + 44)) ++ [.inr (2, [.int 0, .int 0, .int 0, .int 0, .null, .null, .null, .null, .null, .null, .null, .null, .null, .null, .null, .null, .null])]) H := hE
  refine zs_ctor (es := (((([.inr (0, [.ref (a + 1), .int 0, .int 0]), .inl (g.2.2 3, 6, .inr (.inr (.inr (.inr (va_up (va_up (va_up (va_up (fun _ => none) (zN 0) (some (a + 2))) (zN 1) (some (a + 16))) (zN 2) (some (a + 30))) (zN 3) (some (a + 44)))))))] ++ zeSky g (a + 2)) ++ zeSky g (a + 16)) ++ zeSky g (a + 30)) ++ zeSky g (a + 44))) (e0 := .inr (2, [.int 0, .int 0, .int 0, .int 0, .null, .null, .null, .null, .null, .null, .null, .null, .null, .null, .null, .null, .null])) (b := a + 58) (ns := zeSky g (a + 58)) S hK hE hS (Nat.le_refl _) rfl (kX2_init l (a + 58)) rfl rfl ⟨Nat.le_of_ble_eq_true rfl, Nat.le_of_ble_eq_true rfl⟩ wm_X0_17 wv_X2_init wi_X2 wk_X2_init rfl hX2_init hl.1 (Nat.le_of_ble_eq_true rfl) dX0_init_30 ⟨Nat.le_of_ble_eq_true rfl, Nat.le_of_ble_eq_true rfl⟩ (fun H locs hE hS => ?_)
  have hE : zSeg g a ((((([.inr (0, [.ref (a + 1), .int 0, .int 0]), .inl (g.2.2 3, 6, .inr (.inr (.inr (.inr (va_up (va_up (va_up (va_up (fun _ => none) (zN 0) (some (a + 2))) (zN 1) (some (a + 16))) (zN 2) (some (a + 30))) (zN 3) (some (a + 44)))))))] ++ zeSky g (a + 2)) ++ zeSky g (a + 16)) ++ zeSky g (a + 30)) ++ zeSky g (a + 44)) ++ zeSky g (a + 58)) H := hE
  refine zs_aast (k := 1) (qk := 58) (b2 := a + 58) (vs := [.int 0, .int 0, .int 0, .int 0, .ref (a + 58 + 1), .ref (a + 58 + 2), .ref (a + 58 + 3), .ref (a + 58 + 4), .ref (a + 58 + 5), .ref (a + 58 + 6), .ref (a + 58 + 7), .ref (a + 58 + 8), .ref (a + 58 + 9), .ref (a + 58 + 10), .ref (a + 58 + 11), .ref (a + 58 + 12), .ref (a + 58 + 13)]) S hK hE hS (Nat.le_refl _) rfl rfl rfl rfl (by decide) dX0_init_33 (fun H locs hE hS => ?_)
  have hE : zSeg g a ((((([.inr (0, [.ref (a + 1), .int 0, .int 0]), .inl (g.2.2 3, 6, .inr (.inr (.inr (.inr (va_up (va_up (va_up (va_up (va_up (fun _ => none) (zN 0) (some (a + 2))) (zN 1) (some (a + 16))) (zN 2) (some (a + 30))) (zN 3) (some (a + 44))) (zN 4) (some (a + 58)))))))] ++ zeSky g (a + 2)) ++ zeSky g (a + 16)) ++ zeSky g (a + 30)) ++ zeSky g (a + 44)) ++ zeSky g (a + 58)) H := hE
  refine lv_iinc (v := 5) (lv' := [(1, .int 5), (0, .ref a)]) S.1 S.2.1 dX0_init_34 hl (k := 0) rfl (by decide) (by decide) rfl (fun ls hl => ?_)
  refine lv_goto (tgt := 15) S.1 S.2.1 dX0_init_37 (by decide) ?_
  refine lv_iload_n S.1 S.2.1 dX0_init_15 rfl (lv_at hl 0 rfl) ?_
  refine lv_bipush (v := 6) S.1 S.2.1 dX0_init_16 (by decide) ?_
  refine lv_icmp_ge (tgt := 40) S.1 S.2.1 dX0_init_18 (by decide) (fun hc => absurd hc (by decide)) (fun _ => ?_)
  refine lv_aload_n S.1 S.2.1 dX0_init_21 rfl (lv_at hl 1 rfl) ?_
  refine zs_get (k := 0) (f := 0) (v := .ref (a + 1)) S hK hE rfl rfl rfl (by decide) wf_X0_11 rfl dX0_init_22 ?_
  refine lv_iload_n S.1 S.2.1 dX0_init_25 rfl (lv_at hl 0 rfl) ?_
  refine zs_new (ci := 2) (fs := [.int 0, .int 0, .int 0, .int 0, .null, .null, .null, .null, .null, .null, .null, .null, .null, .null, .null, .null, .null]) (b := a + 72) S hK hE hS rfl wc_X0_9 wn_X2 wi_X2 tyX2 tyX2_ok dfX2 rfl (Nat.le_of_ble_eq_true rfl) (Nat.le_of_ble_eq_true rfl) dX0_init_26 (fun H hE hS => ?_)
  have hE : zSeg g a (((((([.inr (0, [.ref (a + 1), .int 0, .int 0]), .inl (g.2.2 3, 6, .inr (.inr (.inr (.inr (va_up (va_up (va_up (va_up (va_up (fun _ => none) (zN 0) (some (a + 2))) (zN 1) (some (a + 16))) (zN 2) (some (a + 30))) (zN 3) (some (a + 44))) (zN 4) (some (a + 58)))))))] ++ zeSky g (a + 2)) ++ zeSky g (a + 16)) ++ zeSky g (a + 30)) ++ zeSky g (a + 44)) ++ zeSky g (a + 58)) ++ [.inr (2, [.int 0, .int 0, .int 0, .int 0, .null, .null, .null, .null, .null, .null, .null, .null, .null, .null, .null, .null, .null])]) H := hE
  refine lv_dup S.1 S.2.1 dX0_init_29 rfl ?_
  have hE : zSeg g a (((((([.inr (0, [.ref (a + 1), .int 0, .int 0]), .inl (g.2.2 3, 6, .inr (.inr (.inr (.inr (va_up (va_up (va_up (va_up (va_up (fun _ => none) (zN 0) (some (a + 2))) (zN 1) (some (a + 16))) (zN 2) (some (a + 30))) (zN 3) (some (a + 44))) (zN 4) (some (a + 58)))))))] ++ zeSky g (a + 2)) ++ zeSky g (a + 16)) ++ zeSky g (a + 30)) ++ zeSky g (a + 44)) ++ zeSky g (a + 58)) ++ [.inr (2, [.int 0, .int 0, .int 0, .int 0, .null, .null, .null, .null, .null, .null, .null, .null, .null, .null, .null, .null, .null])]) H := hE
  refine zs_ctor (es := ((((([.inr (0, [.ref (a + 1), .int 0, .int 0]), .inl (g.2.2 3, 6, .inr (.inr (.inr (.inr (va_up (va_up (va_up (va_up (va_up (fun _ => none) (zN 0) (some (a + 2))) (zN 1) (some (a + 16))) (zN 2) (some (a + 30))) (zN 3) (some (a + 44))) (zN 4) (some (a + 58)))))))] ++ zeSky g (a + 2)) ++ zeSky g (a + 16)) ++ zeSky g (a + 30)) ++ zeSky g (a + 44)) ++ zeSky g (a + 58))) (e0 := .inr (2, [.int 0, .int 0, .int 0, .int 0, .null, .null, .null, .null, .null, .null, .null, .null, .null, .null, .null, .null, .null])) (b := a + 72) (ns := zeSky g (a + 72)) S hK hE hS (Nat.le_refl _) rfl (kX2_init l (a + 72)) rfl rfl ⟨Nat.le_of_ble_eq_true rfl, Nat.le_of_ble_eq_true rfl⟩ wm_X0_17 wv_X2_init wi_X2 wk_X2_init rfl hX2_init hl.1 (Nat.le_of_ble_eq_true rfl) dX0_init_30 ⟨Nat.le_of_ble_eq_true rfl, Nat.le_of_ble_eq_true rfl⟩ (fun H locs hE hS => ?_)
  have hE : zSeg g a (((((([.inr (0, [.ref (a + 1), .int 0, .int 0]), .inl (g.2.2 3, 6, .inr (.inr (.inr (.inr (va_up (va_up (va_up (va_up (va_up (fun _ => none) (zN 0) (some (a + 2))) (zN 1) (some (a + 16))) (zN 2) (some (a + 30))) (zN 3) (some (a + 44))) (zN 4) (some (a + 58)))))))] ++ zeSky g (a + 2)) ++ zeSky g (a + 16)) ++ zeSky g (a + 30)) ++ zeSky g (a + 44)) ++ zeSky g (a + 58)) ++ zeSky g (a + 72)) H := hE
  refine zs_aast (k := 1) (qk := 72) (b2 := a + 72) (vs := [.int 0, .int 0, .int 0, .int 0, .ref (a + 72 + 1), .ref (a + 72 + 2), .ref (a + 72 + 3), .ref (a + 72 + 4), .ref (a + 72 + 5), .ref (a + 72 + 6), .ref (a + 72 + 7), .ref (a + 72 + 8), .ref (a + 72 + 9), .ref (a + 72 + 10), .ref (a + 72 + 11), .ref (a + 72 + 12), .ref (a + 72 + 13)]) S hK hE hS (Nat.le_refl _) rfl rfl rfl rfl (by decide) dX0_init_33 (fun H locs hE hS => ?_)
  have hE : zSeg g a (((((([.inr (0, [.ref (a + 1), .int 0, .int 0]), .inl (g.2.2 3, 6, .inr (.inr (.inr (.inr (va_up (va_up (va_up (va_up (va_up (va_up (fun _ => none) (zN 0) (some (a + 2))) (zN 1) (some (a + 16))) (zN 2) (some (a + 30))) (zN 3) (some (a + 44))) (zN 4) (some (a + 58))) (zN 5) (some (a + 72)))))))] ++ zeSky g (a + 2)) ++ zeSky g (a + 16)) ++ zeSky g (a + 30)) ++ zeSky g (a + 44)) ++ zeSky g (a + 58)) ++ zeSky g (a + 72)) H := hE
  refine lv_iinc (v := 6) (lv' := [(1, .int 6), (0, .ref a)]) S.1 S.2.1 dX0_init_34 hl (k := 0) rfl (by decide) (by decide) rfl (fun ls hl => ?_)
  refine lv_goto (tgt := 15) S.1 S.2.1 dX0_init_37 (by decide) ?_
  refine lv_iload_n S.1 S.2.1 dX0_init_15 rfl (lv_at hl 0 rfl) ?_
  refine lv_bipush (v := 6) S.1 S.2.1 dX0_init_16 (by decide) ?_
  refine lv_icmp_ge (tgt := 40) S.1 S.2.1 dX0_init_18 (by decide) (fun _ => ?_) (fun hc => absurd (by decide) hc)
  refine W.widen (k := 85) (n := 1692) (by decide) (by decide) ?_
  exact zs_vret S hr hlk hE hS dX0_init_40
theorem dfX3 : ∀ j, j < 2 → defaultValue (tyX3 j) = vp_V [.null, .int 0] j := by
  intro j hj
  have h : j = 0 ∨ j = 1 := by omega
  rcases h with rfl | rfl <;> rfl
def zeSlot (g : zGeo) (a : Nat) : List va_E := ([.inr (3, [.ref (a + 1), .int 0])] ++ zeSky g (a + 1))
theorem hX3_init : yX3_init.cls ≠ "java/lang/invoke/MethodHandle" ∧ yX3_init.cls ≠ "java/lang/invoke/VarHandle" ∧ (parseMethodDescriptor yX3_init.desc).map (fun d => d.parameters.length) = some 0 := by decide +kernel
set_option maxRecDepth 100000 in
set_option maxHeartbeats 8000000 in
theorem kX3_init (l : Launch) {g : zGeo} (a : Nat) : Met l yX3_init [.code yX3_init cX3_init 1 none] { frames := 2, cells := 14, slots := 281, locals := 60 } (zPi g a [.inr (3, [.null, .int 0])]) (zQn g a (zeSlot g a)) 14 281 (zS a) := by
  refine zi_enter (cc := cX3_init) (maxL := 1) (by decide) rfl rfl (by decide) ?_
  intro p e s m below meth c S hr hlk hin hK hE hS ls hl
  have S : CallFix p m c cX3_init 1 s _ zT RX3 := S
  refine lv_aload_n S.1 S.2.1 dX3_init_0 rfl (lv_at hl 0 rfl) ?_
  refine W.objInit S.1 S.2.1 S.2.2.2.1 (S.2.2.2.2 _ wm_X3_1) (S.2.2.2.2 _ wv_JO_init) (S.2.2.2.2 _ wk_JO_init) rfl (by rw [S.2.2.1]; exact hl.1) rfl dX3_init_1 (Nat.le_of_ble_eq_true rfl) (Nat.le_of_ble_eq_true rfl) ?_
  refine W.eq (g2 := F0 m 4 ls []) rfl ?_
  refine lv_aload_n S.1 S.2.1 dX3_init_4 rfl (lv_at hl 0 rfl) ?_
  refine zs_new (ci := 2) (fs := [.int 0, .int 0, .int 0, .int 0, .null, .null, .null, .null, .null, .null, .null, .null, .null, .null, .null, .null, .null]) (b := a + 1) S hK hE hS rfl wc_X3_7 wn_X2 wi_X2 tyX2 tyX2_ok dfX2 rfl (Nat.le_of_ble_eq_true rfl) (Nat.le_of_ble_eq_true rfl) dX3_init_5 (fun H hE hS => ?_)
  have hE : zSeg g a [.inr (3, [.null, .int 0]), .inr (2, [.int 0, .int 0, .int 0, .int 0, .null, .null, .null, .null, .null, .null, .null, .null, .null, .null, .null, .null, .null])] H := hE
  refine lv_dup S.1 S.2.1 dX3_init_8 rfl ?_
  have hE : zSeg g a ([.inr (3, [.null, .int 0])] ++ [.inr (2, [.int 0, .int 0, .int 0, .int 0, .null, .null, .null, .null, .null, .null, .null, .null, .null, .null, .null, .null, .null])]) H := hE
  refine zs_ctor (es := [.inr (3, [.null, .int 0])]) (e0 := .inr (2, [.int 0, .int 0, .int 0, .int 0, .null, .null, .null, .null, .null, .null, .null, .null, .null, .null, .null, .null, .null])) (b := a + 1) (ns := zeSky g (a + 1)) S hK hE hS (Nat.le_refl _) rfl (kX2_init l (a + 1)) rfl rfl ⟨Nat.le_of_ble_eq_true rfl, Nat.le_of_ble_eq_true rfl⟩ wm_X3_9 wv_X2_init wi_X2 wk_X2_init rfl hX2_init hl.1 (Nat.le_of_ble_eq_true rfl) dX3_init_9 ⟨Nat.le_of_ble_eq_true rfl, Nat.le_of_ble_eq_true rfl⟩ (fun H locs hE hS => ?_)
  have hE : zSeg g a ([.inr (3, [.null, .int 0])] ++ zeSky g (a + 1)) H := hE
  refine zs_put (k := 0) (f := 0) (v := .ref (a + 1)) (ty := .object "KiteStrings$Sky") S hK hE hS (Nat.le_refl _) hin rfl rfl rfl (by decide) wf_X3_10 rfl rfl (by decide +kernel) rfl rfl (Nat.le_of_ble_eq_true rfl) dX3_init_12 (fun H locs hE hS => ?_)
  have hE : zSeg g a ([.inr (3, [.ref (a + 1), .int 0])] ++ zeSky g (a + 1)) H := hE
  refine W.widen (k := 14) (n := 281) (by decide) (by decide) ?_
  exact zs_vret S hr hlk hE hS dX3_init_15
theorem dfX1 : ∀ j, j < 2 → defaultValue (tyX1 j) = vp_V [.null, .int 0] j := by
  intro j hj
  have h : j = 0 ∨ j = 1 := by omega
  rcases h with rfl | rfl <;> rfl
def zePad (g : zGeo) (a : Nat) : List va_E := [.inr (1, [.ref (a + 1), .int 0]), .inl (g.2.2 2, 60, .inl (fun _ => 0))]
theorem hX1_init : yX1_init.cls ≠ "java/lang/invoke/MethodHandle" ∧ yX1_init.cls ≠ "java/lang/invoke/VarHandle" ∧ (parseMethodDescriptor yX1_init.desc).map (fun d => d.parameters.length) = some 0 := by decide +kernel
set_option maxRecDepth 100000 in
set_option maxHeartbeats 8000000 in
theorem kX1_init (l : Launch) {g : zGeo} (a : Nat) : Met l yX1_init [.code yX1_init cX1_init 1 none] { frames := 1, cells := 1, slots := 60, locals := 40 } (zPi g a [.inr (1, [.null, .int 0])]) (zQn g a (zePad g a)) 1 60 (zS a) := by
  refine zi_enter (cc := cX1_init) (maxL := 1) (by decide) rfl rfl (by decide) ?_
  intro p e s m below meth c S hr hlk hin hK hE hS ls hl
  have S : CallFix p m c cX1_init 1 s _ zT RX1 := S
  refine lv_aload_n S.1 S.2.1 dX1_init_0 rfl (lv_at hl 0 rfl) ?_
  refine W.objInit S.1 S.2.1 S.2.2.2.1 (S.2.2.2.2 _ wm_X1_3) (S.2.2.2.2 _ wv_JO_init) (S.2.2.2.2 _ wk_JO_init) rfl (by rw [S.2.2.1]; exact hl.1) rfl dX1_init_1 (Nat.le_of_ble_eq_true rfl) (Nat.le_of_ble_eq_true rfl) ?_
  refine W.eq (g2 := F0 m 4 ls []) rfl ?_
  refine lv_aload_n S.1 S.2.1 dX1_init_4 rfl (lv_at hl 0 rfl) ?_
  refine lv_bipush (v := 60) S.1 S.2.1 dX1_init_5 (by decide) ?_
  refine zs_newa (atype := .char) (t := 2) (N := 60) (b := a + 1) S hK hE hS wa_ieldTypechar (hK.1.1.2 2 _ rfl).2 rfl (by decide) (by decide) (by decide) rfl (Nat.le_of_ble_eq_true rfl) (Nat.le_of_ble_eq_true rfl) dX1_init_7 (fun H hE hS => ?_)
  have hE : zSeg g a [.inr (1, [.null, .int 0]), .inl (g.2.2 2, 60, .inl (fun _ => 0))] H := hE
  refine zs_put (k := 0) (f := 0) (v := .ref (a + 1)) (ty := .array .char) S hK hE hS (Nat.le_refl _) hin rfl rfl rfl (by decide) wf_X1_9 rfl rfl (by decide +kernel) rfl rfl (Nat.le_of_ble_eq_true rfl) dX1_init_9 (fun H locs hE hS => ?_)
  have hE : zSeg g a [.inr (1, [.ref (a + 1), .int 0]), .inl (g.2.2 2, 60, .inl (fun _ => 0))] H := hE
  refine W.widen (k := 1) (n := 60) (by decide) (by decide) ?_
  exact zs_vret S hr hlk hE hS dX1_init_12
theorem dfX6 : ∀ j, j < 8 → defaultValue (tyX6 j) = vp_V [.null, .null, .null, .null, .null, .null, .null, .null] j := by
  intro j hj
  have h : j = 0 ∨ j = 1 ∨ j = 2 ∨ j = 3 ∨ j = 4 ∨ j = 5 ∨ j = 6 ∨ j = 7 := by omega
  rcases h with rfl | rfl | rfl | rfl | rfl | rfl | rfl | rfl <;> rfl
def zeKS (g : zGeo) (a : Nat) : List va_E := (((((((([.inr (6, [.ref (a + 1), .ref (a + 15), .ref (a + 29), .ref (a + 34), .ref (a + 40), .ref (a + 126), .ref (a + 141), .ref (a + 156)])] ++ zeSky g (a + 1)) ++ zeSky g (a + 15)) ++ zeWeave g (a + 29)) ++ zeTick g (a + 34)) ++ zeHist g (a + 40)) ++ zeSlot g (a + 126)) ++ zeSlot g (a + 141)) ++ zePad g (a + 156))
theorem hX6_init : yX6_init.cls ≠ "java/lang/invoke/MethodHandle" ∧ yX6_init.cls ≠ "java/lang/invoke/VarHandle" ∧ (parseMethodDescriptor yX6_init.desc).map (fun d => d.parameters.length) = some 0 := by decide +kernel
set_option maxRecDepth 100000 in
set_option maxHeartbeats 8000000 in
theorem kX6_init (l : Launch) {g : zGeo} (a : Nat) : Met l yX6_init [.code yX6_init cX6_init 1 none] { frames := 3, cells := 157, slots := 3138, locals := 81 } (zPi g a [.inr (6, [.null, .null, .null, .null, .null, .null, .null, .null])]) (zQn g a (zeKS g a)) 157 3138 (zS a) := by
  refine zi_enter (cc := cX6_init) (maxL := 1) (by decide) rfl rfl (by decide) ?_
  intro p e s m below meth c S hr hlk hin hK hE hS ls hl
  have S : CallFix p m c cX6_init 1 s _ zT RX6 := S
  refine lv_aload_n S.1 S.2.1 dX6_init_0 rfl (lv_at hl 0 rfl) ?_
  refine W.objInit S.1 S.2.1 S.2.2.2.1 (S.2.2.2.2 _ wm_X6_1) (S.2.2.2.2 _ wv_JO_init) (S.2.2.2.2 _ wk_JO_init) rfl (by rw [S.2.2.1]; exact hl.1) rfl dX6_init_1 (Nat.le_of_ble_eq_true rfl) (Nat.le_of_ble_eq_true rfl) ?_
  refine W.eq (g2 := F0 m 4 ls []) rfl ?_
  refine lv_aload_n S.1 S.2.1 dX6_init_4 rfl (lv_at hl 0 rfl) ?_
  refine zs_new (ci := 2) (fs := [.int 0, .int 0, .int 0, .int 0, .null, .null, .null, .null, .null, .null, .null, .null, .null, .null, .null, .null, .null]) (b := a + 1) S hK hE hS rfl wc_X6_7 wn_X2 wi_X2 tyX2 tyX2_ok dfX2 rfl (Nat.le_of_ble_eq_true rfl) (Nat.le_of_ble_eq_true rfl) dX6_init_5 (fun H hE hS => ?_)
  have hE : zSeg g a [.inr (6, [.null, .null, .null, .null, .null, .null, .null, .null]), .inr (2, [.int 0, .int 0, .int 0, .int 0, .null, .null, .null, .null, .null, .null, .null, .null, .null, .null, .null, .null, .null])] H := hE
  refine lv_dup S.1 S.2.1 dX6_init_8 rfl ?_
  have hE : zSeg g a ([.inr (6, [.null, .null, .null, .null, .null, .null, .null, .null])] ++ [.inr (2, [.int 0, .int 0, .int 0, .int 0, .null, .null, .null, .null, .null, .null, .null, .null, .null, .null, .null, .null, .null])]) H := hE
  refine zs_ctor (es := [.inr (6, [.null, .null, .null, .null, .null, .null, .null, .null])]) (e0 := .inr (2, [.int 0, .int 0, .int 0, .int 0, .null, .null, .null, .null, .null, .null, .null, .null, .null, .null, .null, .null, .null])) (b := a + 1) (ns := zeSky g (a + 1)) S hK hE hS (Nat.le_refl _) rfl (kX2_init l (a + 1)) rfl rfl ⟨Nat.le_of_ble_eq_true rfl, Nat.le_of_ble_eq_true rfl⟩ wm_X6_9 wv_X2_init wi_X2 wk_X2_init rfl hX2_init hl.1 (Nat.le_of_ble_eq_true rfl) dX6_init_9 ⟨Nat.le_of_ble_eq_true rfl, Nat.le_of_ble_eq_true rfl⟩ (fun H locs hE hS => ?_)
  have hE : zSeg g a ([.inr (6, [.null, .null, .null, .null, .null, .null, .null, .null])] ++ zeSky g (a + 1)) H := hE
  refine zs_put (k := 0) (f := 0) (v := .ref (a + 1)) (ty := .object "KiteStrings$Sky") S hK hE hS (Nat.le_refl _) hin rfl rfl rfl (by decide) wf_X6_10 rfl rfl (by decide +kernel) rfl rfl (Nat.le_of_ble_eq_true rfl) dX6_init_12 (fun H locs hE hS => ?_)
  have hE : zSeg g a ([.inr (6, [.ref (a + 1), .null, .null, .null, .null, .null, .null, .null])] ++ zeSky g (a + 1)) H := hE
  refine lv_aload_n S.1 S.2.1 dX6_init_15 rfl (lv_at hl 0 rfl) ?_
  refine zs_new (ci := 2) (fs := [.int 0, .int 0, .int 0, .int 0, .null, .null, .null, .null, .null, .null, .null, .null, .null, .null, .null, .null, .null]) (b := a + 15) S hK hE hS rfl wc_X6_7 wn_X2 wi_X2 tyX2 tyX2_ok dfX2 rfl (Nat.le_of_ble_eq_true rfl) (Nat.le_of_ble_eq_true rfl) dX6_init_16 (fun H hE hS => ?_)
  have hE : zSeg g a (([.inr (6, [.ref (a + 1), .null, .null, .null, .null, .null, .null, .null])] ++ zeSky g (a + 1)) ++ [.inr (2, [.int 0, .int 0, .int 0, .int 0, .null, .null, .null, .null, .null, .null, .null, .null, .null, .null, .null, .null, .null])]) H := hE
  refine lv_dup S.1 S.2.1 dX6_init_19 rfl ?_
  have hE : zSeg g a (([.inr (6, [.ref (a + 1), .null, .null, .null, .null, .null, .null, .null])] ++ zeSky g (a + 1)) ++ [.inr (2, [.int 0, .int 0, .int 0, .int 0, .null, .null, .null, .null, .null, .null, .null, .null, .null, .null, .null, .null, .null])]) H := hE
  refine zs_ctor (es := ([.inr (6, [.ref (a + 1), .null, .null, .null, .null, .null, .null, .null])] ++ zeSky g (a + 1))) (e0 := .inr (2, [.int 0, .int 0, .int 0, .int 0, .null, .null, .null, .null, .null, .null, .null, .null, .null, .null, .null, .null, .null])) (b := a + 15) (ns := zeSky g (a + 15)) S hK hE hS (Nat.le_refl _) rfl (kX2_init l (a + 15)) rfl rfl ⟨Nat.le_of_ble_eq_true rfl, Nat.le_of_ble_eq_true rfl⟩ wm_X6_9 wv_X2_init wi_X2 wk_X2_init rfl hX2_init hl.1 (Nat.le_of_ble_eq_true rfl) dX6_init_20 ⟨Nat.le_of_ble_eq_true rfl, Nat.le_of_ble_eq_true rfl⟩ (fun H locs hE hS => ?_)
  have hE : zSeg g a (([.inr (6, [.ref (a + 1), .null, .null, .null, .null, .null, .null, .null])] ++ zeSky g (a + 1)) ++ zeSky g (a + 15)) H := hE
  refine zs_put (k := 0) (f := 1) (v := .ref (a + 15)) (ty := .object "KiteStrings$Sky") S hK hE hS (Nat.le_refl _) hin rfl rfl rfl (by decide) wf_X6_16 rfl rfl (by decide +kernel) rfl rfl (Nat.le_of_ble_eq_true rfl) dX6_init_23 (fun H locs hE hS => ?_)
  have hE : zSeg g a (([.inr (6, [.ref (a + 1), .ref (a + 15), .null, .null, .null, .null, .null, .null])] ++ zeSky g (a + 1)) ++ zeSky g (a + 15)) H := hE
  refine lv_aload_n S.1 S.2.1 dX6_init_26 rfl (lv_at hl 0 rfl) ?_
  refine zs_new (ci := 5) (fs := [.null, .null, .null, .null, .int 0]) (b := a + 29) S hK hE hS rfl wc_X6_19 wn_X5 wi_X5 tyX5 tyX5_ok dfX5 rfl (Nat.le_of_ble_eq_true rfl) (Nat.le_of_ble_eq_true rfl) dX6_init_27 (fun H hE hS => ?_)
  have hE : zSeg g a ((([.inr (6, [.ref (a + 1), .ref (a + 15), .null, .null, .null, .null, .null, .null])] ++ zeSky g (a + 1)) ++ zeSky g (a + 15)) ++ [.inr (5, [.null, .null, .null, .null, .int 0])]) H := hE
  refine lv_dup S.1 S.2.1 dX6_init_30 rfl ?_
  have hE : zSeg g a ((([.inr (6, [.ref (a + 1), .ref (a + 15), .null, .null, .null, .null, .null, .null])] ++ zeSky g (a + 1)) ++ zeSky g (a + 15)) ++ [.inr (5, [.null, .null, .null, .null, .int 0])]) H := hE
  refine zs_ctor (es := (([.inr (6, [.ref (a + 1), .ref (a + 15), .null, .null, .null, .null, .null, .null])] ++ zeSky g (a + 1)) ++ zeSky g (a + 15))) (e0 := .inr (5, [.null, .null, .null, .null, .int 0])) (b := a + 29) (ns := zeWeave g (a + 29)) S hK hE hS (Nat.le_refl _) rfl (kX5_init l (a + 29)) rfl rfl ⟨Nat.le_of_ble_eq_true rfl, Nat.le_of_ble_eq_true rfl⟩ wm_X6_21 wv_X5_init wi_X5 wk_X5_init rfl hX5_init hl.1 (Nat.le_of_ble_eq_true rfl) dX6_init_31 ⟨Nat.le_of_ble_eq_true rfl, Nat.le_of_ble_eq_true rfl⟩ (fun H locs hE hS => ?_)
  have hE : zSeg g a ((([.inr (6, [.ref (a + 1), .ref (a + 15), .null, .null, .null, .null, .null, .null])] ++ zeSky g (a + 1)) ++ zeSky g (a + 15)) ++ zeWeave g (a + 29)) H := hE
  refine zs_put (k := 0) (f := 2) (v := .ref (a + 29)) (ty := .object "KiteStrings$Weave") S hK hE hS (Nat.le_refl _) hin rfl rfl rfl (by decide) wf_X6_22 rfl rfl (by decide +kernel) rfl rfl (Nat.le_of_ble_eq_true rfl) dX6_init_34 (fun H locs hE hS => ?_)
  have hE : zSeg g a ((([.inr (6, [.ref (a + 1), .ref (a + 15), .ref (a + 29), .null, .null, .null, .null, .null])] ++ zeSky g (a + 1)) ++ zeSky g (a + 15)) ++ zeWeave g (a + 29)) H := hE
  refine lv_aload_n S.1 S.2.1 dX6_init_37 rfl (lv_at hl 0 rfl) ?_
  refine zs_new (ci := 4) (fs := [.null, .int 0, .int 0]) (b := a + 34) S hK hE hS rfl wc_X6_26 wn_X4 wi_X4 tyX4 tyX4_ok dfX4 rfl (Nat.le_of_ble_eq_true rfl) (Nat.le_of_ble_eq_true rfl) dX6_init_38 (fun H hE hS => ?_)
  have hE : zSeg g a (((([.inr (6, [.ref (a + 1), .ref (a + 15), .ref (a + 29), .null, .null, .null, .null, .null])] ++ zeSky g (a + 1)) ++ zeSky g (a + 15)) ++ zeWeave g (a + 29)) ++ [.inr (4, [.null, .int 0, .int 0])]) H := hE
  refine lv_dup S.1 S.2.1 dX6_init_41 rfl ?_
  have hE : zSeg g a (((([.inr (6, [.ref (a + 1), .ref (a + 15), .ref (a + 29), .null, .null, .null, .null, .null])] ++ zeSky g (a + 1)) ++ zeSky g (a + 15)) ++ zeWeave g (a + 29)) ++ [.inr (4, [.null, .int 0, .int 0])]) H := hE
  refine zs_ctor (es := ((([.inr (6, [.ref (a + 1), .ref (a + 15), .ref (a + 29), .null, .null, .null, .null, .null])] ++ zeSky g (a + 1)) ++ zeSky g (a + 15)) ++ zeWeave g (a + 29))) (e0 := .inr (4, [.null, .int 0, .int 0])) (b := a + 34) (ns := zeTick g (a + 34)) S hK hE hS (Nat.le_refl _) rfl (kX4_init l (a + 34)) rfl rfl ⟨Nat.le_of_ble_eq_true rfl, Nat.le_of_ble_eq_true rfl⟩ wm_X6_28 wv_X4_init wi_X4 wk_X4_init rfl hX4_init hl.1 (Nat.le_of_ble_eq_true rfl) dX6_init_42 ⟨Nat.le_of_ble_eq_true rfl, Nat.le_of_ble_eq_true rfl⟩ (fun H locs hE hS => ?_)
  have hE : zSeg g a (((([.inr (6, [.ref (a + 1), .ref (a + 15), .ref (a + 29), .null, .null, .null, .null, .null])] ++ zeSky g (a + 1)) ++ zeSky g (a + 15)) ++ zeWeave g (a + 29)) ++ zeTick g (a + 34)) H := hE
  refine zs_put (k := 0) (f := 3) (v := .ref (a + 34)) (ty := .object "KiteStrings$Tick") S hK hE hS (Nat.le_refl _) hin rfl rfl rfl (by decide) wf_X6_29 rfl rfl (by decide +kernel) rfl rfl (Nat.le_of_ble_eq_true rfl) dX6_init_45 (fun H locs hE hS => ?_)
  have hE : zSeg g a (((([.inr (6, [.ref (a + 1), .ref (a + 15), .ref (a + 29), .ref (a + 34), .null, .null, .null, .null])] ++ zeSky g (a + 1)) ++ zeSky g (a + 15)) ++ zeWeave g (a + 29)) ++ zeTick g (a + 34)) H := hE
  refine lv_aload_n S.1 S.2.1 dX6_init_48 rfl (lv_at hl 0 rfl) ?_
  refine zs_new (ci := 0) (fs := [.null, .int 0, .int 0]) (b := a + 40) S hK hE hS rfl wc_X6_33 wn_X0 wi_X0 tyX0 tyX0_ok dfX0 rfl (Nat.le_of_ble_eq_true rfl) (Nat.le_of_ble_eq_true rfl) dX6_init_49 (fun H hE hS => ?_)
  have hE : zSeg g a ((((([.inr (6, [.ref (a + 1), .ref (a + 15), .ref (a + 29), .ref (a + 34), .null, .null, .null, .null])] ++ zeSky g (a + 1)) ++ zeSky g (a + 15)) ++ zeWeave g (a + 29)) ++ zeTick g (a + 34)) ++ [.inr (0, [.null, .int 0, .int 0])]) H := hE
  refine lv_dup S.1 S.2.1 dX6_init_52 rfl ?_
  have hE : zSeg g a ((((([.inr (6, [.ref (a + 1), .ref (a + 15), .ref (a + 29), .ref (a + 34), .null, .null, .null, .null])] ++ zeSky g (a + 1)) ++ zeSky g (a + 15)) ++ zeWeave g (a + 29)) ++ zeTick g (a + 34)) ++ [.inr (0, [.null, .int 0, .int 0])]) H := hE
  refine zs_ctor (es := (((([.inr (6, [.ref (a + 1), .ref (a + 15), .ref (a + 29), .ref (a + 34), .null, .null, .null, .null])] ++ zeSky g (a + 1)) ++ zeSky g (a + 15)) ++ zeWeave g (a + 29)) ++ zeTick g (a + 34))) (e0 := .inr (0, [.null, .int 0, .int 0])) (b := a + 40) (ns := zeHist g (a + 40)) S hK hE hS (Nat.le_refl _) rfl (kX0_init l (a + 40)) rfl rfl ⟨Nat.le_of_ble_eq_true rfl, Nat.le_of_ble_eq_true rfl⟩ wm_X6_35 wv_X0_init wi_X0 wk_X0_init rfl hX0_init hl.1 (Nat.le_of_ble_eq_true rfl) dX6_init_53 ⟨Nat.le_of_ble_eq_true rfl, Nat.le_of_ble_eq_true rfl⟩ (fun H locs hE hS => ?_)
  have hE : zSeg g a ((((([.inr (6, [.ref (a + 1), .ref (a + 15), .ref (a + 29), .ref (a + 34), .null, .null, .null, .null])] ++ zeSky g (a + 1)) ++ zeSky g (a + 15)) ++ zeWeave g (a + 29)) ++ zeTick g (a + 34)) ++ zeHist g (a + 40)) H := hE
  refine zs_put (k := 0) (f := 4) (v := .ref (a + 40)) (ty := .object "KiteStrings$History") S hK hE hS (Nat.le_refl _) hin rfl rfl rfl (by decide) wf_X6_36 rfl rfl (by decide +kernel) rfl rfl (Nat.le_of_ble_eq_true rfl) dX6_init_56 (fun H locs hE hS => ?_)
  have hE : zSeg g a ((((([.inr (6, [.ref (a + 1), .ref (a + 15), .ref (a + 29), .ref (a + 34), .ref (a + 40), .null, .null, .null])] ++ zeSky g (a + 1)) ++ zeSky g (a + 15)) ++ zeWeave g (a + 29)) ++ zeTick g (a + 34)) ++ zeHist g (a + 40)) H := hE
  refine lv_aload_n S.1 S.2.1 dX6_init_59 rfl (lv_at hl 0 rfl) ?_
  refine zs_new (ci := 3) (fs := [.null, .int 0]) (b := a + 126) S hK hE hS rfl wc_X6_40 wn_X3 wi_X3 tyX3 tyX3_ok dfX3 rfl (Nat.le_of_ble_eq_true rfl) (Nat.le_of_ble_eq_true rfl) dX6_init_60 (fun H hE hS => ?_)
  have hE : zSeg g a (((((([.inr (6, [.ref (a + 1), .ref (a + 15), .ref (a + 29), .ref (a + 34), .ref (a + 40), .null, .null, .null])] ++ zeSky g (a + 1)) ++ zeSky g (a + 15)) ++ zeWeave g (a + 29)) ++ zeTick g (a + 34)) ++ zeHist g (a + 40)) ++ [.inr (3, [.null, .int 0])]) H := hE
  refine lv_dup S.1 S.2.1 dX6_init_63 rfl ?_
  have hE : zSeg g a (((((([.inr (6, [.ref (a + 1), .ref (a + 15), .ref (a + 29), .ref (a + 34), .ref (a + 40), .null, .null, .null])] ++ zeSky g (a + 1)) ++ zeSky g (a + 15)) ++ zeWeave g (a + 29)) ++ zeTick g (a + 34)) ++ zeHist g (a + 40)) ++ [.inr (3, [.null, .int 0])]) H := hE
  refine zs_ctor (es := ((((([.inr (6, [.ref (a + 1), .ref (a + 15), .ref (a + 29), .ref (a + 34), .ref (a + 40), .null, .null, .null])] ++ zeSky g (a + 1)) ++ zeSky g (a + 15)) ++ zeWeave g (a + 29)) ++ zeTick g (a + 34)) ++ zeHist g (a + 40))) (e0 := .inr (3, [.null, .int 0])) (b := a + 126) (ns := zeSlot g (a + 126)) S hK hE hS (Nat.le_refl _) rfl (kX3_init l (a + 126)) rfl rfl ⟨Nat.le_of_ble_eq_true rfl, Nat.le_of_ble_eq_true rfl⟩ wm_X6_42 wv_X3_init wi_X3 wk_X3_init rfl hX3_init hl.1 (Nat.le_of_ble_eq_true rfl) dX6_init_64 ⟨Nat.le_of_ble_eq_true rfl, Nat.le_of_ble_eq_true rfl⟩ (fun H locs hE hS => ?_)
  have hE : zSeg g a (((((([.inr (6, [.ref (a + 1), .ref (a + 15), .ref (a + 29), .ref (a + 34), .ref (a + 40), .null, .null, .null])] ++ zeSky g (a + 1)) ++ zeSky g (a + 15)) ++ zeWeave g (a + 29)) ++ zeTick g (a + 34)) ++ zeHist g (a + 40)) ++ zeSlot g (a + 126)) H := hE
  refine zs_put (k := 0) (f := 5) (v := .ref (a + 126)) (ty := .object "KiteStrings$Slot") S hK hE hS (Nat.le_refl _) hin rfl rfl rfl (by decide) wf_X6_43 rfl rfl (by decide +kernel) rfl rfl (Nat.le_of_ble_eq_true rfl) dX6_init_67 (fun H locs hE hS => ?_)
  have hE : zSeg g a (((((([.inr (6, [.ref (a + 1), .ref (a + 15), .ref (a + 29), .ref (a + 34), .ref (a + 40), .ref (a + 126), .null, .null])] ++ zeSky g (a + 1)) ++ zeSky g (a + 15)) ++ zeWeave g (a + 29)) ++ zeTick g (a + 34)) ++ zeHist g (a + 40)) ++ zeSlot g (a + 126)) H := hE
  refine lv_aload_n S.1 S.2.1 dX6_init_70 rfl (lv_at hl 0 rfl) ?_
  refine zs_new (ci := 3) (fs := [.null, .int 0]) (b := a + 141) S hK hE hS rfl wc_X6_40 wn_X3 wi_X3 tyX3 tyX3_ok dfX3 rfl (Nat.le_of_ble_eq_true rfl) (Nat.le_of_ble_eq_true rfl) dX6_init_71 (fun H hE hS => ?_)
  have hE : zSeg g a ((((((([.inr (6, [.ref (a + 1), .ref (a + 15), .ref (a + 29), .ref (a + 34), .ref (a + 40), .ref (a + 126), .null, .null])] ++ zeSky g (a + 1)) ++ zeSky g (a + 15)) ++ zeWeave g (a + 29)) ++ zeTick g (a + 34)) ++ zeHist g (a + 40)) ++ zeSlot g (a + 126)) ++ [.inr (3, [.null, .int 0])]) H := hE
  refine lv_dup S.1 S.2.1 dX6_init_74 rfl ?_
  have hE : zSeg g a ((((((([.inr (6, [.ref (a + 1), .ref (a + 15), .ref (a + 29), .ref (a + 34), .ref (a + 40), .ref (a + 126), .null, .null])] ++ zeSky g (a + 1)) ++ zeSky g (a + 15)) ++ zeWeave g (a + 29)) ++ zeTick g (a + 34)) ++ zeHist g (a + 40)) ++ zeSlot g (a + 126)) ++ [.inr (3, [.null, .int 0])]) H := hE
  refine zs_ctor (es := (((((([.inr (6, [.ref (a + 1), .ref (a + 15), .ref (a + 29), .ref (a + 34), .ref (a + 40), .ref (a + 126), .null, .null])] ++ zeSky g (a + 1)) ++ zeSky g (a + 15)) ++ zeWeave g (a + 29)) ++ zeTick g (a + 34)) ++ zeHist g (a + 40)) ++ zeSlot g (a + 126))) (e0 := .inr (3, [.null, .int 0])) (b := a + 141) (ns := zeSlot g (a + 141)) S hK hE hS (Nat.le_refl _) rfl (kX3_init l (a + 141)) rfl rfl ⟨Nat.le_of_ble_eq_true rfl, Nat.le_of_ble_eq_true rfl⟩ wm_X6_42 wv_X3_init wi_X3 wk_X3_init rfl hX3_init hl.1 (Nat.le_of_ble_eq_true rfl) dX6_init_75 ⟨Nat.le_of_ble_eq_true rfl, Nat.le_of_ble_eq_true rfl⟩ (fun H locs hE hS => ?_)
  have hE : zSeg g a ((((((([.inr (6, [.ref (a + 1), .ref (a + 15), .ref (a + 29), .ref (a + 34), .ref (a + 40), .ref (a + 126), .null, .null])] ++ zeSky g (a + 1)) ++ zeSky g (a + 15)) ++ zeWeave g (a + 29)) ++ zeTick g (a + 34)) ++ zeHist g (a + 40)) ++ zeSlot g (a + 126)) ++ zeSlot g (a + 141)) H := hE
  refine zs_put (k := 0) (f := 6) (v := .ref (a + 141)) (ty := .object "KiteStrings$Slot") S hK hE hS (Nat.le_refl _) hin rfl rfl rfl (by decide) wf_X6_47 rfl rfl (by decide +kernel) rfl rfl (Nat.le_of_ble_eq_true rfl) dX6_init_78 (fun H locs hE hS => ?_)
  have hE : zSeg g a ((((((([.inr (6, [.ref (a + 1), .ref (a + 15), .ref (a + 29), .ref (a + 34), .ref (a + 40), .ref (a + 126), .ref (a + 141), .null])] ++ zeSky g (a + 1)) ++ zeSky g (a + 15)) ++ zeWeave g (a + 29)) ++ zeTick g (a + 34)) ++ zeHist g (a + 40)) ++ zeSlot g (a + 126)) ++ zeSlot g (a + 141)) H := hE
  refine lv_aload_n S.1 S.2.1 dX6_init_81 rfl (lv_at hl 0 rfl) ?_
  refine zs_new (ci := 1) (fs := [.null, .int 0]) (b := a + 156) S hK hE hS rfl wc_X6_50 wn_X1 wi_X1 tyX1 tyX1_ok dfX1 rfl (Nat.le_of_ble_eq_true rfl) (Nat.le_of_ble_eq_true rfl) dX6_init_82 (fun H hE hS => ?_)
  have hE : zSeg g a (((((((([.inr (6, [.ref (a + 1), .ref (a + 15), .ref (a + 29), .ref (a + 34), .ref (a + 40), .ref (a + 126), .ref (a + 141), .null])] ++ zeSky g (a + 1)) ++ zeSky g (a + 15)) ++ zeWeave g (a + 29)) ++ zeTick g (a + 34)) ++ zeHist g (a + 40)) ++ zeSlot g (a + 126)) ++ zeSlot g (a + 141)) ++ [.inr (1, [.null, .int 0])]) H := hE
  refine lv_dup S.1 S.2.1 dX6_init_85 rfl ?_
  have hE : zSeg g a (((((((([.inr (6, [.ref (a + 1), .ref (a + 15), .ref (a + 29), .ref (a + 34), .ref (a + 40), .ref (a + 126), .ref (a + 141), .null])] ++ zeSky g (a + 1)) ++ zeSky g (a + 15)) ++ zeWeave g (a + 29)) ++ zeTick g (a + 34)) ++ zeHist g (a + 40)) ++ zeSlot g (a + 126)) ++ zeSlot g (a + 141)) ++ [.inr (1, [.null, .int 0])]) H := hE
  refine zs_ctor (es := ((((((([.inr (6, [.ref (a + 1), .ref (a + 15), .ref (a + 29), .ref (a + 34), .ref (a + 40), .ref (a + 126), .ref (a + 141), .null])] ++ zeSky g (a + 1)) ++ zeSky g (a + 15)) ++ zeWeave g (a + 29)) ++ zeTick g (a + 34)) ++ zeHist g (a + 40)) ++ zeSlot g (a + 126)) ++ zeSlot g (a + 141))) (e0 := .inr (1, [.null, .int 0])) (b := a + 156) (ns := zePad g (a + 156)) S hK hE hS (Nat.le_refl _) rfl (kX1_init l (a + 156)) rfl rfl ⟨Nat.le_of_ble_eq_true rfl, Nat.le_of_ble_eq_true rfl⟩ wm_X6_52 wv_X1_init wi_X1 wk_X1_init rfl hX1_init hl.1 (Nat.le_of_ble_eq_true rfl) dX6_init_86 ⟨Nat.le_of_ble_eq_true rfl, Nat.le_of_ble_eq_true rfl⟩ (fun H locs hE hS => ?_)
  have hE : zSeg g a (((((((([.inr (6, [.ref (a + 1), .ref (a + 15), .ref (a + 29), .ref (a + 34), .ref (a + 40), .ref (a + 126), .ref (a + 141), .null])] ++ zeSky g (a + 1)) ++ zeSky g (a + 15)) ++ zeWeave g (a + 29)) ++ zeTick g (a + 34)) ++ zeHist g (a + 40)) ++ zeSlot g (a + 126)) ++ zeSlot g (a + 141)) ++ zePad g (a + 156)) H := hE
  refine zs_put (k := 0) (f := 7) (v := .ref (a + 156)) (ty := .object "KiteStrings$Pad") S hK hE hS (Nat.le_refl _) hin rfl rfl rfl (by decide) wf_X6_53 rfl rfl (by decide +kernel) rfl rfl (Nat.le_of_ble_eq_true rfl) dX6_init_89 (fun H locs hE hS => ?_)
  have hE : zSeg g a (((((((([.inr (6, [.ref (a + 1), .ref (a + 15), .ref (a + 29), .ref (a + 34), .ref (a + 40), .ref (a + 126), .ref (a + 141), .ref (a + 156)])] ++ zeSky g (a + 1)) ++ zeSky g (a + 15)) ++ zeWeave g (a + 29)) ++ zeTick g (a + 34)) ++ zeHist g (a + 40)) ++ zeSlot g (a + 126)) ++ zeSlot g (a + 141)) ++ zePad g (a + 156)) H := hE
  refine W.widen (k := 157) (n := 3138) (by decide) (by decide) ?_
  exact zs_vret S hr hlk hE hS dX6_init_92
