set_option maxRecDepth 100000 in
set_option maxHeartbeats 8000000 in
theorem zstart {p : Program} {e : Env} {s : State} {m : MethodId} {below : List Frame} {meth : Method} {c : Code} (l : Launch) {b L : Nat} {xs : Nat → Int32} (hL : L ≤ 260) {M9 : zM} (hF : fL_law_L61 (fun M _ => some (1, M)) xs L 2000 zM0 0 = some (1, M9)) (C0 : lw_At p s m meth c b L xs) : W p l e room_1 s m #[Value.ref b] below meth c s.heap [] 0 0 (lw_Z below #[Value.ref b] s) (entryFrame m ([Value.ref b] : List Value).toArray 21) := by
  obtain ⟨hx, hb, hr, hml, hown, hts, hX, hbl, hlocks, hgv⟩ := id C0
  obtain ⟨c0, i0, k0⟩ := u_known (C := RX0) (T := TX0) (N := 3) (n := 3) hts (fun w hw => (List.mem_filter.mp (zFld_0 w hw)).1) (hts _ (List.mem_filter.mp wn_X0).1)
  obtain ⟨c1, i1, k1⟩ := u_known (C := RX1) (T := TX1) (N := 2) (n := 2) hts (fun w hw => (List.mem_filter.mp (zFld_1 w hw)).1) (hts _ (List.mem_filter.mp wn_X1).1)
  obtain ⟨c2, i2, k2⟩ := u_known (C := RX2) (T := TX2) (N := 17) (n := 17) hts (fun w hw => (List.mem_filter.mp (zFld_2 w hw)).1) (hts _ (List.mem_filter.mp wn_X2).1)
  obtain ⟨c3, i3, k3⟩ := u_known (C := RX3) (T := TX3) (N := 2) (n := 2) hts (fun w hw => (List.mem_filter.mp (zFld_3 w hw)).1) (hts _ (List.mem_filter.mp wn_X3).1)
  obtain ⟨c4, i4, k4⟩ := u_known (C := RX4) (T := TX4) (N := 3) (n := 3) hts (fun w hw => (List.mem_filter.mp (zFld_4 w hw)).1) (hts _ (List.mem_filter.mp wn_X4).1)
  obtain ⟨c5, i5, k5⟩ := u_known (C := RX5) (T := TX5) (N := 5) (n := 5) hts (fun w hw => (List.mem_filter.mp (zFld_5 w hw)).1) (hts _ (List.mem_filter.mp wn_X5).1)
  obtain ⟨c6, i6, k6⟩ := u_known (C := RX6) (T := TX6) (N := 8) (n := 8) hts (fun w hw => (List.mem_filter.mp (zFld_6 w hw)).1) (hts _ (List.mem_filter.mp wn_X6).1)
  obtain ⟨aI, kI, pI, fI, hI1, hI2⟩ := Cond.arrayClass_spec (hts _ (List.mem_filter.mp wa_FieldTypeint).1)
  obtain ⟨aZ, kZ, pZ, fZ, hZ1, hZ2⟩ := Cond.arrayClass_spec (hts _ (List.mem_filter.mp wa_dTypeboolean).1)
  obtain ⟨aC, kC, pC, fC, hC1, hC2⟩ := Cond.arrayClass_spec (hts _ (List.mem_filter.mp wa_ieldTypechar).1)
  have hAO : va_AO "KiteStrings$Sky" s := va_AO.of (hts (.arrayOver (.object "KiteStrings$Sky")) (by decide +kernel))
  obtain ⟨pQ, aQ, kQ, hQ1, hQ2, hQ3, hQ4, hQ5⟩ := Cond.arrayOver_spec hAO
  obtain ⟨dC, dI, hKc⟩ : ∃ (dC : Nat → ClassId) (dI : Nat → Nat → Nat), ∀ (k : Nat) (q : vw_C), vwCl[k]? = some q → u_Kn s q.1 q.2.1 q.2.2 (dC k) (dI k) := by
    refine ⟨fun k => if k = 0 then c0 else if k = 1 then c1 else if k = 2 then c2 else if k = 3 then c3 else if k = 4 then c4 else if k = 5 then c5 else c6, fun k => if k = 0 then i0 else if k = 1 then i1 else if k = 2 then i2 else if k = 3 then i3 else if k = 4 then i4 else if k = 5 then i5 else i6, ?_⟩
    intro k q hq
    match k, hq with
    | 0, hq => cases hq; exact k0
    | 1, hq => cases hq; exact k1
    | 2, hq => cases hq; exact k2
    | 3, hq => cases hq; exact k3
    | 4, hq => cases hq; exact k4
    | 5, hq => cases hq; exact k5
    | 6, hq => cases hq; exact k6
    | k + 7, hq => simp [vwCl] at hq
  have hA : va_K (dC, dI) vwCl [(aI, .int), (aZ, .boolean), (aC, .char), (aQ, .object "KiteStrings$Sky")] s := by
    refine ⟨hKc, fun k q hq => ?_⟩
    match k, hq with
    | 0, hq => cases hq; exact ⟨fun n z => ⟨fun k h => (by cases h), kI, hI1, pI, hI2⟩, fI⟩
    | 1, hq => cases hq; exact ⟨fun n z => ⟨fun k h => (by cases h), kZ, hZ1, pZ, hZ2⟩, fZ⟩
    | 2, hq => cases hq; exact ⟨fun n z => ⟨fun k h => (by cases h), kC, hC1, pC, hC2⟩, fC⟩
    | 3, hq => cases hq; exact ⟨fun n z => ⟨fun k h => (by cases h), kQ, hQ3, pQ, hQ4⟩, kQ, pQ, hQ3, hQ4, hQ1, hQ5⟩
    | k + 4, hq => simp at hq
  obtain ⟨g, hgd⟩ : ∃ g : zGeo, g = zge s.heap.size (dC, dI) (fun t => if t = 0 then aI else if t = 1 then aZ else if t = 2 then aC else aQ) := ⟨_, rfl⟩
  have hK : zK g s := by
    subst hgd
    refine ⟨hA, fun w hw => word_at (State.WarmedH.refl s) (zT_ok hw) (hts _ (List.mem_filter.mp hw).1), fun q hq => ?_⟩
    simp only [zNests, List.mem_cons, List.not_mem_nil, or_false] at hq
    subst hq
    exact va_Nw.of rfl (hts (.methodLinkNest RX2 92 yX6_isWithin "KiteStrings") (by decide +kernel))
  have hKc2 : zKc g s := ⟨hK, hAO⟩
  have hg : zAd g s.heap.size := by subst hgd; exact zge_ad
  have S : CallFix p m c code 21 s #[Value.ref b] zT RL := ⟨hx, hb, hml, hown, fun w hw => hts w (List.mem_filter.mp hw).1⟩
  have hl := lv_entry ([.ref b]) (n := 21) (Nat.le_of_ble_eq_true rfl)
  rw [lg_entry_eq]
  generalize (lg_sl ([.ref b]) ++ List.replicate (21 - (lg_sl ([.ref b])).length) Slot.unset).toArray = ls at hl ⊢
  have hl : lv_has ls 21 [(0, .ref b)] := hl
  have hS : va_S (zS s.heap.size) s.heap s.heap [] := va_S.rf
  have hE : zSeg g s.heap.size [] s.heap := ⟨rfl, fun c e h => by simp at h⟩
  refine zs_new (ci := 6) (fs := [.null, .null, .null, .null, .null, .null, .null, .null]) (b := s.heap.size) S hKc2 hE hS rfl wc_L_32 wn_X6 wi_X6 tyX6 tyX6_ok dfX6 rfl (Nat.le_of_ble_eq_true rfl) (Nat.le_of_ble_eq_true rfl) dL_law_0 (fun H hE hS => ?_)
  refine lv_dup S.1 S.2.1 dL_law_3 rfl ?_
  refine zs_ctor (es := []) (e0 := .inr (6, [.null, .null, .null, .null, .null, .null, .null, .null])) (b := s.heap.size) (ns := zeKS g s.heap.size) S hKc2 hE hS (Nat.le_refl _) rfl (kX6_init l s.heap.size) rfl rfl ⟨Nat.le_of_ble_eq_true rfl, Nat.le_of_ble_eq_true rfl⟩ wm_L_66 wv_X6_init wi_X6 wk_X6_init rfl hX6_init hl.1 (Nat.le_of_ble_eq_true rfl) dL_law_4 ⟨Nat.le_of_ble_eq_true rfl, Nat.le_of_ble_eq_true rfl⟩ (fun H locs hE hS => ?_)
  have hE : zSeg g s.heap.size (zeKS g s.heap.size) H := hE
  refine lv_astore_n (lv' := [(1, .ref s.heap.size), (0, .ref b)]) S.1 S.2.1 dL_law_7 rfl hl (by decide) rfl (fun ls hl => ?_)
  obtain ⟨es0, hes⟩ : ∃ es0, es0 = zeKS g s.heap.size := ⟨_, rfl⟩
  have hlen : es0.length = 158 := by rw [hes]; rfl
  rw [← hes] at hE
  refine lv_iconst (v := 4) S.1 S.2.1 dL_law_8 (by decide) ?_
  refine zs_newa (atype := .int) (t := 0) (N := 4) (b := s.heap.size + 158) S hKc2 hE hS wa_FieldTypeint (hKc2.1.1.2 0 _ rfl).2 rfl (by decide) (by decide) (by decide) (by simp only [List.length_append, hlen, List.length_cons, List.length_nil, Nat.zero_add, Nat.reduceAdd]) (Nat.le_of_ble_eq_true rfl) (Nat.le_of_ble_eq_true rfl) dL_law_9 (fun H hE hS => ?_)
  have hE : zSeg g s.heap.size ((es0) ++ [.inl ((g).2.2 0, 4, .inl (fun _ => 0))]) H := hE
  refine lv_astore_n (lv' := [(2, .ref (s.heap.size + 158)), (1, .ref s.heap.size), (0, .ref b)]) S.1 S.2.1 dL_law_11 rfl hl (by decide) rfl (fun ls hl => ?_)
  refine lv_bipush (v := 48) S.1 S.2.1 dL_law_12 (by decide) ?_
  refine zs_newa (atype := .int) (t := 0) (N := 48) (b := s.heap.size + 159) S hKc2 hE hS wa_FieldTypeint (hKc2.1.1.2 0 _ rfl).2 rfl (by decide) (by decide) (by decide) (by simp only [List.length_append, hlen, List.length_cons, List.length_nil, Nat.zero_add, Nat.reduceAdd]) (Nat.le_of_ble_eq_true rfl) (Nat.le_of_ble_eq_true rfl) dL_law_14 (fun H hE hS => ?_)
  have hE : zSeg g s.heap.size (((es0) ++ [.inl ((g).2.2 0, 4, .inl (fun _ => 0))]) ++ [.inl ((g).2.2 0, 48, .inl (fun _ => 0))]) H := hE
  refine lv_astore_n (lv' := [(3, .ref (s.heap.size + 159)), (2, .ref (s.heap.size + 158)), (1, .ref s.heap.size), (0, .ref b)]) S.1 S.2.1 dL_law_16 rfl hl (by decide) rfl (fun ls hl => ?_)
  refine lv_bipush (v := 64) S.1 S.2.1 dL_law_17 (by decide) ?_
  refine zs_newa (atype := .int) (t := 0) (N := 64) (b := s.heap.size + 160) S hKc2 hE hS wa_FieldTypeint (hKc2.1.1.2 0 _ rfl).2 rfl (by decide) (by decide) (by decide) (by simp only [List.length_append, hlen, List.length_cons, List.length_nil, Nat.zero_add, Nat.reduceAdd]) (Nat.le_of_ble_eq_true rfl) (Nat.le_of_ble_eq_true rfl) dL_law_19 (fun H hE hS => ?_)
  have hE : zSeg g s.heap.size ((((es0) ++ [.inl ((g).2.2 0, 4, .inl (fun _ => 0))]) ++ [.inl ((g).2.2 0, 48, .inl (fun _ => 0))]) ++ [.inl ((g).2.2 0, 64, .inl (fun _ => 0))]) H := hE
  refine lv_astore (lv' := [(4, .ref (s.heap.size + 160)), (3, .ref (s.heap.size + 159)), (2, .ref (s.heap.size + 158)), (1, .ref s.heap.size), (0, .ref b)]) S.1 S.2.1 dL_law_21 hl (by decide) rfl (fun ls hl => ?_)
  refine lv_bipush (v := 64) S.1 S.2.1 dL_law_23 (by decide) ?_
  refine zs_newa (atype := .int) (t := 0) (N := 64) (b := s.heap.size + 161) S hKc2 hE hS wa_FieldTypeint (hKc2.1.1.2 0 _ rfl).2 rfl (by decide) (by decide) (by decide) (by simp only [List.length_append, hlen, List.length_cons, List.length_nil, Nat.zero_add, Nat.reduceAdd]) (Nat.le_of_ble_eq_true rfl) (Nat.le_of_ble_eq_true rfl) dL_law_25 (fun H hE hS => ?_)
  have hE : zSeg g s.heap.size (((((es0) ++ [.inl ((g).2.2 0, 4, .inl (fun _ => 0))]) ++ [.inl ((g).2.2 0, 48, .inl (fun _ => 0))]) ++ [.inl ((g).2.2 0, 64, .inl (fun _ => 0))]) ++ [.inl ((g).2.2 0, 64, .inl (fun _ => 0))]) H := hE
  refine lv_astore (lv' := [(5, .ref (s.heap.size + 161)), (4, .ref (s.heap.size + 160)), (3, .ref (s.heap.size + 159)), (2, .ref (s.heap.size + 158)), (1, .ref s.heap.size), (0, .ref b)]) S.1 S.2.1 dL_law_27 hl (by decide) rfl (fun ls hl => ?_)
  refine lv_bipush (v := 16) S.1 S.2.1 dL_law_29 (by decide) ?_
  refine zs_newa (atype := .int) (t := 0) (N := 16) (b := s.heap.size + 162) S hKc2 hE hS wa_FieldTypeint (hKc2.1.1.2 0 _ rfl).2 rfl (by decide) (by decide) (by decide) (by simp only [List.length_append, hlen, List.length_cons, List.length_nil, Nat.zero_add, Nat.reduceAdd]) (Nat.le_of_ble_eq_true rfl) (Nat.le_of_ble_eq_true rfl) dL_law_31 (fun H hE hS => ?_)
  have hE : zSeg g s.heap.size ((((((es0) ++ [.inl ((g).2.2 0, 4, .inl (fun _ => 0))]) ++ [.inl ((g).2.2 0, 48, .inl (fun _ => 0))]) ++ [.inl ((g).2.2 0, 64, .inl (fun _ => 0))]) ++ [.inl ((g).2.2 0, 64, .inl (fun _ => 0))]) ++ [.inl ((g).2.2 0, 16, .inl (fun _ => 0))]) H := hE
  refine lv_astore (lv' := [(6, .ref (s.heap.size + 162)), (5, .ref (s.heap.size + 161)), (4, .ref (s.heap.size + 160)), (3, .ref (s.heap.size + 159)), (2, .ref (s.heap.size + 158)), (1, .ref s.heap.size), (0, .ref b)]) S.1 S.2.1 dL_law_33 hl (by decide) rfl (fun ls hl => ?_)
  refine lv_iconst (v := 4) S.1 S.2.1 dL_law_35 (by decide) ?_
  refine zs_newa (atype := .int) (t := 0) (N := 4) (b := s.heap.size + 163) S hKc2 hE hS wa_FieldTypeint (hKc2.1.1.2 0 _ rfl).2 rfl (by decide) (by decide) (by decide) (by simp only [List.length_append, hlen, List.length_cons, List.length_nil, Nat.zero_add, Nat.reduceAdd]) (Nat.le_of_ble_eq_true rfl) (Nat.le_of_ble_eq_true rfl) dL_law_36 (fun H hE hS => ?_)
  have hE : zSeg g s.heap.size (((((((es0) ++ [.inl ((g).2.2 0, 4, .inl (fun _ => 0))]) ++ [.inl ((g).2.2 0, 48, .inl (fun _ => 0))]) ++ [.inl ((g).2.2 0, 64, .inl (fun _ => 0))]) ++ [.inl ((g).2.2 0, 64, .inl (fun _ => 0))]) ++ [.inl ((g).2.2 0, 16, .inl (fun _ => 0))]) ++ [.inl ((g).2.2 0, 4, .inl (fun _ => 0))]) H := hE
  refine lv_astore (lv' := [(7, .ref (s.heap.size + 163)), (6, .ref (s.heap.size + 162)), (5, .ref (s.heap.size + 161)), (4, .ref (s.heap.size + 160)), (3, .ref (s.heap.size + 159)), (2, .ref (s.heap.size + 158)), (1, .ref s.heap.size), (0, .ref b)]) S.1 S.2.1 dL_law_38 hl (by decide) rfl (fun ls hl => ?_)
  refine lv_bipush (v := 48) S.1 S.2.1 dL_law_40 (by decide) ?_
  refine zs_newa (atype := .int) (t := 0) (N := 48) (b := s.heap.size + 164) S hKc2 hE hS wa_FieldTypeint (hKc2.1.1.2 0 _ rfl).2 rfl (by decide) (by decide) (by decide) (by simp only [List.length_append, hlen, List.length_cons, List.length_nil, Nat.zero_add, Nat.reduceAdd]) (Nat.le_of_ble_eq_true rfl) (Nat.le_of_ble_eq_true rfl) dL_law_42 (fun H hE hS => ?_)
  have hE : zSeg g s.heap.size ((((((((es0) ++ [.inl ((g).2.2 0, 4, .inl (fun _ => 0))]) ++ [.inl ((g).2.2 0, 48, .inl (fun _ => 0))]) ++ [.inl ((g).2.2 0, 64, .inl (fun _ => 0))]) ++ [.inl ((g).2.2 0, 64, .inl (fun _ => 0))]) ++ [.inl ((g).2.2 0, 16, .inl (fun _ => 0))]) ++ [.inl ((g).2.2 0, 4, .inl (fun _ => 0))]) ++ [.inl ((g).2.2 0, 48, .inl (fun _ => 0))]) H := hE
  refine lv_astore (lv' := [(8, .ref (s.heap.size + 164)), (7, .ref (s.heap.size + 163)), (6, .ref (s.heap.size + 162)), (5, .ref (s.heap.size + 161)), (4, .ref (s.heap.size + 160)), (3, .ref (s.heap.size + 159)), (2, .ref (s.heap.size + 158)), (1, .ref s.heap.size), (0, .ref b)]) S.1 S.2.1 dL_law_44 hl (by decide) rfl (fun ls hl => ?_)
  refine lv_bipush (v := 64) S.1 S.2.1 dL_law_46 (by decide) ?_
  refine zs_newa (atype := .int) (t := 0) (N := 64) (b := s.heap.size + 165) S hKc2 hE hS wa_FieldTypeint (hKc2.1.1.2 0 _ rfl).2 rfl (by decide) (by decide) (by decide) (by simp only [List.length_append, hlen, List.length_cons, List.length_nil, Nat.zero_add, Nat.reduceAdd]) (Nat.le_of_ble_eq_true rfl) (Nat.le_of_ble_eq_true rfl) dL_law_48 (fun H hE hS => ?_)
  have hE : zSeg g s.heap.size (((((((((es0) ++ [.inl ((g).2.2 0, 4, .inl (fun _ => 0))]) ++ [.inl ((g).2.2 0, 48, .inl (fun _ => 0))]) ++ [.inl ((g).2.2 0, 64, .inl (fun _ => 0))]) ++ [.inl ((g).2.2 0, 64, .inl (fun _ => 0))]) ++ [.inl ((g).2.2 0, 16, .inl (fun _ => 0))]) ++ [.inl ((g).2.2 0, 4, .inl (fun _ => 0))]) ++ [.inl ((g).2.2 0, 48, .inl (fun _ => 0))]) ++ [.inl ((g).2.2 0, 64, .inl (fun _ => 0))]) H := hE
  refine lv_astore (lv' := [(9, .ref (s.heap.size + 165)), (8, .ref (s.heap.size + 164)), (7, .ref (s.heap.size + 163)), (6, .ref (s.heap.size + 162)), (5, .ref (s.heap.size + 161)), (4, .ref (s.heap.size + 160)), (3, .ref (s.heap.size + 159)), (2, .ref (s.heap.size + 158)), (1, .ref s.heap.size), (0, .ref b)]) S.1 S.2.1 dL_law_50 hl (by decide) rfl (fun ls hl => ?_)
  refine lv_bipush (v := 64) S.1 S.2.1 dL_law_52 (by decide) ?_
  refine zs_newa (atype := .int) (t := 0) (N := 64) (b := s.heap.size + 166) S hKc2 hE hS wa_FieldTypeint (hKc2.1.1.2 0 _ rfl).2 rfl (by decide) (by decide) (by decide) (by simp only [List.length_append, hlen, List.length_cons, List.length_nil, Nat.zero_add, Nat.reduceAdd]) (Nat.le_of_ble_eq_true rfl) (Nat.le_of_ble_eq_true rfl) dL_law_54 (fun H hE hS => ?_)
  have hE : zSeg g s.heap.size ((((((((((es0) ++ [.inl ((g).2.2 0, 4, .inl (fun _ => 0))]) ++ [.inl ((g).2.2 0, 48, .inl (fun _ => 0))]) ++ [.inl ((g).2.2 0, 64, .inl (fun _ => 0))]) ++ [.inl ((g).2.2 0, 64, .inl (fun _ => 0))]) ++ [.inl ((g).2.2 0, 16, .inl (fun _ => 0))]) ++ [.inl ((g).2.2 0, 4, .inl (fun _ => 0))]) ++ [.inl ((g).2.2 0, 48, .inl (fun _ => 0))]) ++ [.inl ((g).2.2 0, 64, .inl (fun _ => 0))]) ++ [.inl ((g).2.2 0, 64, .inl (fun _ => 0))]) H := hE
  refine lv_astore (lv' := [(10, .ref (s.heap.size + 166)), (9, .ref (s.heap.size + 165)), (8, .ref (s.heap.size + 164)), (7, .ref (s.heap.size + 163)), (6, .ref (s.heap.size + 162)), (5, .ref (s.heap.size + 161)), (4, .ref (s.heap.size + 160)), (3, .ref (s.heap.size + 159)), (2, .ref (s.heap.size + 158)), (1, .ref s.heap.size), (0, .ref b)]) S.1 S.2.1 dL_law_56 hl (by decide) rfl (fun ls hl => ?_)
  refine lv_iconst (v := 0) S.1 S.2.1 dL_law_58 (by decide) ?_
  refine lv_istore (lv' := [(11, .int 0), (10, .ref (s.heap.size + 166)), (9, .ref (s.heap.size + 165)), (8, .ref (s.heap.size + 164)), (7, .ref (s.heap.size + 163)), (6, .ref (s.heap.size + 162)), (5, .ref (s.heap.size + 161)), (4, .ref (s.heap.size + 160)), (3, .ref (s.heap.size + 159)), (2, .ref (s.heap.size + 158)), (1, .ref s.heap.size), (0, .ref b)]) S.1 S.2.1 dL_law_59 hl (by decide) rfl (fun ls hl => ?_)
  have hR : zR g zM0 H := by
    rw [hes] at hE
    subst hgd
    exact zR_init hE
  refine W.widen (k := 167) (n := 3522) (by decide) (by decide) ?_
  have e0 : g.1 0 0 = s.heap.size := by rw [hgd]; rfl
  have e26 : g.1 26 0 = s.heap.size + 158 := by rw [hgd]; rfl
  have e27 : g.1 27 0 = s.heap.size + 159 := by rw [hgd]; rfl
  have e28 : g.1 28 0 = s.heap.size + 160 := by rw [hgd]; rfl
  have e29 : g.1 29 0 = s.heap.size + 161 := by rw [hgd]; rfl
  have e30 : g.1 30 0 = s.heap.size + 162 := by rw [hgd]; rfl
  have e31 : g.1 31 0 = s.heap.size + 163 := by rw [hgd]; rfl
  have e32 : g.1 32 0 = s.heap.size + 164 := by rw [hgd]; rfl
  have e33 : g.1 33 0 = s.heap.size + 165 := by rw [hgd]; rfl
  have e34 : g.1 34 0 = s.heap.size + 166 := by rw [hgd]; rfl
  have hl : lv_has ls 21 [(0, .ref b), (1, .ref (g.1 0 0)), (2, .ref (g.1 26 0)), (3, .ref (g.1 27 0)), (4, .ref (g.1 28 0)), (5, .ref (g.1 29 0)), (6, .ref (g.1 30 0)), (7, .ref (g.1 31 0)), (8, .ref (g.1 32 0)), (9, .ref (g.1 33 0)), (10, .ref (g.1 34 0)), (11, .int 0)] := by
    rw [e0, e26, e27, e28, e29, e30, e31, e32, e33, e34]
    exact lv_sub hl [11, 10, 9, 8, 7, 6, 5, 4, 3, 2, 1, 0] rfl
  have hlf : meth.locks = false := hlocks
  have hend : ∀ (M : zM) (a11 : Int32) (H : Heap) (locs : List Loc), zR g M H → va_S (zS s.heap.size) s.heap H locs → ∀ ls : Array Slot, lv_has ls 21 [(0, .ref b), (1, .ref (g.1 0 0)), (2, .ref (g.1 26 0)), (3, .ref (g.1 27 0)), (4, .ref (g.1 28 0)), (5, .ref (g.1 29 0)), (6, .ref (g.1 30 0)), (7, .ref (g.1 31 0)), (8, .ref (g.1 32 0)), (9, .ref (g.1 33 0)), (10, .ref (g.1 34 0)), (11, .int a11)] → (fun (M : zM) (_ : Int32) => some ((1 : Int32), M)) M a11 = some (1, M9) → W p l e room_1 s m #[Value.ref b] below meth c H locs 167 3522 (lw_Z below #[Value.ref b] s) (F0 m 977 ls []) := by
    intro M a11 H locs hR hS ls hl _
    refine lv_iconst (v := 1) S.1 S.2.1 dL_law_977 (by decide) ?_
    refine va_forget (fun q hq => hS.2.2 q hq) ?_
    refine W.widen (k := 600000) (n := 7302250) (by omega) (by omega) ?_
    exact lw_ret S.1 S.2.1 hr hlf dL_law_978
  exact lL_61 S hr hg hK hX hbl hbl hL ⟨Nat.le_of_ble_eq_true rfl, Nat.le_of_ble_eq_true rfl⟩ (fun M _ => some (1, M)) hend 2000 zM0 0 H locs hR hS ls hl hF
