def zsb (i : Nat) : Nat := if i = 0 then 1 else if i = 1 then 15 else if i < 8 then 42 + 14 * (i - 2) else if i = 8 then 127 else 142
def zoff (k i : Nat) : Nat := if k = 0 then 0 else if k ≤ 14 then zsb i + (k - 1) else if k ≤ 19 then (if i = 0 then 29 else 35) + (k - 15) else if k = 20 then 34 else if k ≤ 22 then 40 + (k - 21) else if k = 23 then (if i = 0 then 126 else 141) else 156 + (k - 24)
theorem zoff_inj : zall.all (fun q => zall.all (fun r => !(zoff q.1 q.2 == zoff r.1 r.2) || q == r)) = true := by decide +kernel
def zge (z : Nat) (D : va_G) (cA : Nat → ClassId) : zGeo := (fun k i => z + zoff k i, D, cA)
theorem zge_ad {z : Nat} {D : va_G} {cA : Nat → ClassId} : zAd (zge z D cA) z := by
  refine ⟨fun k i _ => Nat.le_add_right _ _, fun k i k' i' h h' he => ?_⟩
  have h1 : zoff k i = zoff k' i' := Nat.add_left_cancel he
  have h2 := List.all_eq_true.mp (List.all_eq_true.mp zoff_inj _ (zall_mem h)) _ (zall_mem h')
  simp only [Bool.or_eq_true, Bool.not_eq_true', beq_eq_false_iff_ne, beq_iff_eq] at h2
  rcases h2 with h2 | h2
  · exact absurd h1 h2
  · exact ⟨congrArg Prod.fst h2, congrArg Prod.snd h2⟩
theorem z10 {P : Nat → Prop} (h0 : P 0) (h1 : P 1) (h2 : P 2) (h3 : P 3) (h4 : P 4) (h5 : P 5) (h6 : P 6) (h7 : P 7) (h8 : P 8) (h9 : P 9) {i : Nat} (hi : i < 10) : P i := by
  obtain rfl | rfl | rfl | rfl | rfl | rfl | rfl | rfl | rfl | rfl : i = 0 ∨ i = 1 ∨ i = 2 ∨ i = 3 ∨ i = 4 ∨ i = 5 ∨ i = 6 ∨ i = 7 ∨ i = 8 ∨ i = 9 := by omega
  · exact h0
  · exact h1
  · exact h2
  · exact h3
  · exact h4
  · exact h5
  · exact h6
  · exact h7
  · exact h8
  · exact h9
theorem z2 {P : Nat → Prop} (h0 : P 0) (h1 : P 1) {i : Nat} (hi : i < 2) : P i := by
  obtain rfl | rfl : i = 0 ∨ i = 1 := by omega
  · exact h0
  · exact h1
theorem z1 {P : Nat → Prop} (h0 : P 0) {i : Nat} (hi : i < 1) : P i := by
  obtain rfl : i = 0 := by omega
  exact h0
theorem zcellq_congr {cA : ClassId} {n : Nat} {f f' : Nat → Option Nat} (h : ∀ j, j < n → f j = f' j) : vp_cell cA (n, .inr (.inr (.inr (.inr f)))) = vp_cell cA (n, .inr (.inr (.inr (.inr f')))) := by
  rw [vp_cell_q, vp_cell_q]
  unfold arrV
  congr 1
  apply Array.ext
  · simp
  · intro i h1 h2
    simp only [Array.getElem_ofFn]
    rw [h i (by simpa using h1)]
def zM0 : zM := fun _ _ _ => 0
set_option maxRecDepth 100000 in
set_option maxHeartbeats 16000000 in
theorem zR_init {z : Nat} {D : va_G} {cA : Nat → ClassId} {H : Heap} (hE : zSeg (zge z D cA) z ((((((((((zeKS (zge z D cA) z) ++ [.inl (((zge z D cA)).2.2 0, 4, .inl (fun _ => 0))]) ++ [.inl (((zge z D cA)).2.2 0, 48, .inl (fun _ => 0))]) ++ [.inl (((zge z D cA)).2.2 0, 64, .inl (fun _ => 0))]) ++ [.inl (((zge z D cA)).2.2 0, 64, .inl (fun _ => 0))]) ++ [.inl (((zge z D cA)).2.2 0, 16, .inl (fun _ => 0))]) ++ [.inl (((zge z D cA)).2.2 0, 4, .inl (fun _ => 0))]) ++ [.inl (((zge z D cA)).2.2 0, 48, .inl (fun _ => 0))]) ++ [.inl (((zge z D cA)).2.2 0, 64, .inl (fun _ => 0))]) ++ [.inl (((zge z D cA)).2.2 0, 64, .inl (fun _ => 0))]) H) : zR (zge z D cA) zM0 H := by
  intro k i hi
  have hk : k < 35 := by
    rcases Nat.lt_or_ge k 35 with q | q
    · exact q
    · have : zcnt k = 0 := by
        unfold zcnt
        rw [List.getD_eq_getElem?_getD, List.getElem?_eq_none (by show zcl.length ≤ k; exact q)]
        rfl
      omega
  obtain rfl | rfl | rfl | rfl | rfl | rfl | rfl | rfl | rfl | rfl | rfl | rfl | rfl | rfl | rfl | rfl | rfl | rfl | rfl | rfl | rfl | rfl | rfl | rfl | rfl | rfl | rfl | rfl | rfl | rfl | rfl | rfl | rfl | rfl | rfl : k = 0 ∨ k = 1 ∨ k = 2 ∨ k = 3 ∨ k = 4 ∨ k = 5 ∨ k = 6 ∨ k = 7 ∨ k = 8 ∨ k = 9 ∨ k = 10 ∨ k = 11 ∨ k = 12 ∨ k = 13 ∨ k = 14 ∨ k = 15 ∨ k = 16 ∨ k = 17 ∨ k = 18 ∨ k = 19 ∨ k = 20 ∨ k = 21 ∨ k = 22 ∨ k = 23 ∨ k = 24 ∨ k = 25 ∨ k = 26 ∨ k = 27 ∨ k = 28 ∨ k = 29 ∨ k = 30 ∨ k = 31 ∨ k = 32 ∨ k = 33 ∨ k = 34 := by omega
  · exact z1 (P := fun i => va_at (zge z D cA).2.1 vwCl ((zge z D cA).1 0 i, zent (zge z D cA) 0 i (zM0 0 i)) H) (hE.2 0 _ rfl) hi
  · exact z10 (P := fun i => va_at (zge z D cA).2.1 vwCl ((zge z D cA).1 1 i, zent (zge z D cA) 1 i (zM0 1 i)) H) (hE.2 1 _ rfl) (hE.2 15 _ rfl) (hE.2 42 _ rfl) (hE.2 56 _ rfl) (hE.2 70 _ rfl) (hE.2 84 _ rfl) (hE.2 98 _ rfl) (hE.2 112 _ rfl) (hE.2 127 _ rfl) (hE.2 142 _ rfl) hi
  · exact z10 (P := fun i => va_at (zge z D cA).2.1 vwCl ((zge z D cA).1 2 i, zent (zge z D cA) 2 i (zM0 2 i)) H) (hE.2 2 _ rfl) (hE.2 16 _ rfl) (hE.2 43 _ rfl) (hE.2 57 _ rfl) (hE.2 71 _ rfl) (hE.2 85 _ rfl) (hE.2 99 _ rfl) (hE.2 113 _ rfl) (hE.2 128 _ rfl) (hE.2 143 _ rfl) hi
  · exact z10 (P := fun i => va_at (zge z D cA).2.1 vwCl ((zge z D cA).1 3 i, zent (zge z D cA) 3 i (zM0 3 i)) H) (hE.2 3 _ rfl) (hE.2 17 _ rfl) (hE.2 44 _ rfl) (hE.2 58 _ rfl) (hE.2 72 _ rfl) (hE.2 86 _ rfl) (hE.2 100 _ rfl) (hE.2 114 _ rfl) (hE.2 129 _ rfl) (hE.2 144 _ rfl) hi
  · exact z10 (P := fun i => va_at (zge z D cA).2.1 vwCl ((zge z D cA).1 4 i, zent (zge z D cA) 4 i (zM0 4 i)) H) (hE.2 4 _ rfl) (hE.2 18 _ rfl) (hE.2 45 _ rfl) (hE.2 59 _ rfl) (hE.2 73 _ rfl) (hE.2 87 _ rfl) (hE.2 101 _ rfl) (hE.2 115 _ rfl) (hE.2 130 _ rfl) (hE.2 145 _ rfl) hi
  · exact z10 (P := fun i => va_at (zge z D cA).2.1 vwCl ((zge z D cA).1 5 i, zent (zge z D cA) 5 i (zM0 5 i)) H) (hE.2 5 _ rfl) (hE.2 19 _ rfl) (hE.2 46 _ rfl) (hE.2 60 _ rfl) (hE.2 74 _ rfl) (hE.2 88 _ rfl) (hE.2 102 _ rfl) (hE.2 116 _ rfl) (hE.2 131 _ rfl) (hE.2 146 _ rfl) hi
  · exact z10 (P := fun i => va_at (zge z D cA).2.1 vwCl ((zge z D cA).1 6 i, zent (zge z D cA) 6 i (zM0 6 i)) H) (hE.2 6 _ rfl) (hE.2 20 _ rfl) (hE.2 47 _ rfl) (hE.2 61 _ rfl) (hE.2 75 _ rfl) (hE.2 89 _ rfl) (hE.2 103 _ rfl) (hE.2 117 _ rfl) (hE.2 132 _ rfl) (hE.2 147 _ rfl) hi
  · exact z10 (P := fun i => va_at (zge z D cA).2.1 vwCl ((zge z D cA).1 7 i, zent (zge z D cA) 7 i (zM0 7 i)) H) (hE.2 7 _ rfl) (hE.2 21 _ rfl) (hE.2 48 _ rfl) (hE.2 62 _ rfl) (hE.2 76 _ rfl) (hE.2 90 _ rfl) (hE.2 104 _ rfl) (hE.2 118 _ rfl) (hE.2 133 _ rfl) (hE.2 148 _ rfl) hi
  · exact z10 (P := fun i => va_at (zge z D cA).2.1 vwCl ((zge z D cA).1 8 i, zent (zge z D cA) 8 i (zM0 8 i)) H) (hE.2 8 _ rfl) (hE.2 22 _ rfl) (hE.2 49 _ rfl) (hE.2 63 _ rfl) (hE.2 77 _ rfl) (hE.2 91 _ rfl) (hE.2 105 _ rfl) (hE.2 119 _ rfl) (hE.2 134 _ rfl) (hE.2 149 _ rfl) hi
  · exact z10 (P := fun i => va_at (zge z D cA).2.1 vwCl ((zge z D cA).1 9 i, zent (zge z D cA) 9 i (zM0 9 i)) H) (hE.2 9 _ rfl) (hE.2 23 _ rfl) (hE.2 50 _ rfl) (hE.2 64 _ rfl) (hE.2 78 _ rfl) (hE.2 92 _ rfl) (hE.2 106 _ rfl) (hE.2 120 _ rfl) (hE.2 135 _ rfl) (hE.2 150 _ rfl) hi
  · exact z10 (P := fun i => va_at (zge z D cA).2.1 vwCl ((zge z D cA).1 10 i, zent (zge z D cA) 10 i (zM0 10 i)) H) (hE.2 10 _ rfl) (hE.2 24 _ rfl) (hE.2 51 _ rfl) (hE.2 65 _ rfl) (hE.2 79 _ rfl) (hE.2 93 _ rfl) (hE.2 107 _ rfl) (hE.2 121 _ rfl) (hE.2 136 _ rfl) (hE.2 151 _ rfl) hi
  · exact z10 (P := fun i => va_at (zge z D cA).2.1 vwCl ((zge z D cA).1 11 i, zent (zge z D cA) 11 i (zM0 11 i)) H) (hE.2 11 _ rfl) (hE.2 25 _ rfl) (hE.2 52 _ rfl) (hE.2 66 _ rfl) (hE.2 80 _ rfl) (hE.2 94 _ rfl) (hE.2 108 _ rfl) (hE.2 122 _ rfl) (hE.2 137 _ rfl) (hE.2 152 _ rfl) hi
  · exact z10 (P := fun i => va_at (zge z D cA).2.1 vwCl ((zge z D cA).1 12 i, zent (zge z D cA) 12 i (zM0 12 i)) H) (hE.2 12 _ rfl) (hE.2 26 _ rfl) (hE.2 53 _ rfl) (hE.2 67 _ rfl) (hE.2 81 _ rfl) (hE.2 95 _ rfl) (hE.2 109 _ rfl) (hE.2 123 _ rfl) (hE.2 138 _ rfl) (hE.2 153 _ rfl) hi
  · exact z10 (P := fun i => va_at (zge z D cA).2.1 vwCl ((zge z D cA).1 13 i, zent (zge z D cA) 13 i (zM0 13 i)) H) (hE.2 13 _ rfl) (hE.2 27 _ rfl) (hE.2 54 _ rfl) (hE.2 68 _ rfl) (hE.2 82 _ rfl) (hE.2 96 _ rfl) (hE.2 110 _ rfl) (hE.2 124 _ rfl) (hE.2 139 _ rfl) (hE.2 154 _ rfl) hi
  · exact z10 (P := fun i => va_at (zge z D cA).2.1 vwCl ((zge z D cA).1 14 i, zent (zge z D cA) 14 i (zM0 14 i)) H) (hE.2 14 _ rfl) (hE.2 28 _ rfl) (hE.2 55 _ rfl) (hE.2 69 _ rfl) (hE.2 83 _ rfl) (hE.2 97 _ rfl) (hE.2 111 _ rfl) (hE.2 125 _ rfl) (hE.2 140 _ rfl) (hE.2 155 _ rfl) hi
  · exact z2 (P := fun i => va_at (zge z D cA).2.1 vwCl ((zge z D cA).1 15 i, zent (zge z D cA) 15 i (zM0 15 i)) H) (hE.2 29 _ rfl) (hE.2 35 _ rfl) hi
  · exact z2 (P := fun i => va_at (zge z D cA).2.1 vwCl ((zge z D cA).1 16 i, zent (zge z D cA) 16 i (zM0 16 i)) H) (hE.2 30 _ rfl) (hE.2 36 _ rfl) hi
  · exact z2 (P := fun i => va_at (zge z D cA).2.1 vwCl ((zge z D cA).1 17 i, zent (zge z D cA) 17 i (zM0 17 i)) H) (hE.2 31 _ rfl) (hE.2 37 _ rfl) hi
  · exact z2 (P := fun i => va_at (zge z D cA).2.1 vwCl ((zge z D cA).1 18 i, zent (zge z D cA) 18 i (zM0 18 i)) H) (hE.2 32 _ rfl) (hE.2 38 _ rfl) hi
  · exact z2 (P := fun i => va_at (zge z D cA).2.1 vwCl ((zge z D cA).1 19 i, zent (zge z D cA) 19 i (zM0 19 i)) H) (hE.2 33 _ rfl) (hE.2 39 _ rfl) hi
  · exact z1 (P := fun i => va_at (zge z D cA).2.1 vwCl ((zge z D cA).1 20 i, zent (zge z D cA) 20 i (zM0 20 i)) H) (hE.2 34 _ rfl) hi
  · exact z1 (P := fun i => va_at (zge z D cA).2.1 vwCl ((zge z D cA).1 21 i, zent (zge z D cA) 21 i (zM0 21 i)) H) (hE.2 40 _ rfl) hi
  · refine z1 (P := fun i => va_at (zge z D cA).2.1 vwCl ((zge z D cA).1 22 i, zent (zge z D cA) 22 i (zM0 22 i)) H) ?_ hi
    have h : H[z + 41]? = some (vp_cell (cA 3) (6, .inr (.inr (.inr (.inr (va_up (va_up (va_up (va_up (va_up (va_up (fun _ => none) (zN 0) (some (z + 40 + 2))) (zN 1) (some (z + 40 + 16))) (zN 2) (some (z + 40 + 30))) (zN 3) (some (z + 40 + 44))) (zN 4) (some (z + 40 + 58))) (zN 5) (some (z + 40 + 72)))))))) := hE.2 41 _ rfl
    show H[z + 41]? = some (vp_cell (cA 3) (6, .inr (.inr (.inr (.inr (fun j => some ((zge z D cA).1 1 (2 + j))))))))
    rw [h]
    refine congrArg some (zcellq_congr (fun j hj => ?_))
    obtain rfl | rfl | rfl | rfl | rfl | rfl : j = 0 ∨ j = 1 ∨ j = 2 ∨ j = 3 ∨ j = 4 ∨ j = 5 := by omega
    all_goals rfl
  · exact z2 (P := fun i => va_at (zge z D cA).2.1 vwCl ((zge z D cA).1 23 i, zent (zge z D cA) 23 i (zM0 23 i)) H) (hE.2 126 _ rfl) (hE.2 141 _ rfl) hi
  · exact z1 (P := fun i => va_at (zge z D cA).2.1 vwCl ((zge z D cA).1 24 i, zent (zge z D cA) 24 i (zM0 24 i)) H) (hE.2 156 _ rfl) hi
  · exact z1 (P := fun i => va_at (zge z D cA).2.1 vwCl ((zge z D cA).1 25 i, zent (zge z D cA) 25 i (zM0 25 i)) H) (hE.2 157 _ rfl) hi
  · exact z1 (P := fun i => va_at (zge z D cA).2.1 vwCl ((zge z D cA).1 26 i, zent (zge z D cA) 26 i (zM0 26 i)) H) (hE.2 158 _ rfl) hi
  · exact z1 (P := fun i => va_at (zge z D cA).2.1 vwCl ((zge z D cA).1 27 i, zent (zge z D cA) 27 i (zM0 27 i)) H) (hE.2 159 _ rfl) hi
  · exact z1 (P := fun i => va_at (zge z D cA).2.1 vwCl ((zge z D cA).1 28 i, zent (zge z D cA) 28 i (zM0 28 i)) H) (hE.2 160 _ rfl) hi
  · exact z1 (P := fun i => va_at (zge z D cA).2.1 vwCl ((zge z D cA).1 29 i, zent (zge z D cA) 29 i (zM0 29 i)) H) (hE.2 161 _ rfl) hi
  · exact z1 (P := fun i => va_at (zge z D cA).2.1 vwCl ((zge z D cA).1 30 i, zent (zge z D cA) 30 i (zM0 30 i)) H) (hE.2 162 _ rfl) hi
  · exact z1 (P := fun i => va_at (zge z D cA).2.1 vwCl ((zge z D cA).1 31 i, zent (zge z D cA) 31 i (zM0 31 i)) H) (hE.2 163 _ rfl) hi
  · exact z1 (P := fun i => va_at (zge z D cA).2.1 vwCl ((zge z D cA).1 32 i, zent (zge z D cA) 32 i (zM0 32 i)) H) (hE.2 164 _ rfl) hi
  · exact z1 (P := fun i => va_at (zge z D cA).2.1 vwCl ((zge z D cA).1 33 i, zent (zge z D cA) 33 i (zM0 33 i)) H) (hE.2 165 _ rfl) hi
  · exact z1 (P := fun i => va_at (zge z D cA).2.1 vwCl ((zge z D cA).1 34 i, zent (zge z D cA) 34 i (zM0 34 i)) H) (hE.2 166 _ rfl) hi
set_option maxRecDepth 100000 in
set_option maxHeartbeats 8000000 in
theorem zstart {p : Program} {e : Env} {s : State} {m : MethodId} {below : List Frame} {meth : Method} {c : Code} (l : Launch) {b L : Nat} {xs : Nat → Int32} (hL : L ≤ 260) {M9 : zM} (hF : fL_law_L61 (fun M _ => some (1, M)) xs L 2000 zM0 0 = some (1, M9)) (C0 : lw_At p s m meth c b L xs) : W p l e room_1 s m #[Value.ref b] below meth c s.heap [] 0 0 (lw_Z below #[Value.ref b] s) (entryFrame m ([Value.ref b] : List Value).toArray 21) := by
  obtain ⟨hx, hb, hr, hml, hown, hts, hX, hbl, hlocks, hgv⟩ := id C0
  obtain ⟨c0, i0, k0⟩ := u_known (C := RX0) (T := TX0) (N := 3) (n := 3) hts (fun w hw => (List.mem_filter.mp (zFld_0 w hw)).1) (hts _ (List.mem_filter.mp wn_X0).1)
  obtain ⟨c1, i1, k1⟩ := u_known (C := RX1) (T := TX1) (N := 2) (n := 2) hts (fun w hw => (List.mem_filter.mp (zFld_1 w hw)).1) (hts _ (List.mem_filter.mp wn_X1).1)
  obtain ⟨c2, i2, k2⟩ := u_known (C := RX2) (T := TX2) (N := 17) (n := 17) hts (fun w hw => (List.mem_filter.mp (zFld_2 w hw)).1) (hts _ (List.mem_filter.mp wn_X2).1)
  obtain ⟨c3, i3, k3⟩ := u_known (C := RX3) (T := TX3) (N := 2) (n := 2) hts (fun w hw => (List.mem_filter.mp (zFld_3 w hw)).1) (hts _ (List.mem_filter.mp wn_X3).1)
  obtain ⟨c4, i4, k4⟩ := u_known (C := RX4) (T := TX4) (N := 3) (n := 3) hts (fun w hw => (List.mem_filter.mp (zFld_4 w hw)).1) (hts _ (List.mem_filter.mp wn_X4).1)
  obtain ⟨c5, i5, k5⟩ := u_known (C := RX5) (T := TX5) (N := 5) (n := 5) hts (fun w hw => (List.mem_filter.mp (zFld_5 w hw)).1) (hts _ (List.mem_filter.mp wn_X5).1)
  obtain ⟨c6, i6, k6⟩ := u_known (C := RX6) (T := TX6) (N := 8) (n := 8) hts (fun w hw => (List.mem_filter.mp (zFld_6 w hw)).1) (hts _ (List.mem_filter.mp wn_X6).1)
  obtain ⟨aI, kI, pI, fI, hI1, hI2⟩ := Cond.arrayClass_spec (hts _ (List.mem_filter.mp wa_FieldTypeint).1)
  obtain ⟨aZ, kZ, pZ, fZ, hZ1, hZ2⟩ := Cond.arrayClass_spec (hts _ (List.mem_filter.mp wa_dTypeboolean).1)
  obtain ⟨aC, kC, pC, fC, hC1, hC2⟩ := Cond.arrayClass_spec (hts _ (List.mem_filter.mp wa_ieldTypechar).1)
  have hAO : va_AO "KiteStrings$Sky" s := va_AO.of (hts (.arrayOver (.object "KiteStrings$Sky")) (by decide +kernel))
  obtain ⟨pQ, aQ, kQ, hQ1, hQ2, hQ3, hQ4, hQ5⟩ := Cond.arrayOver_spec hAO
  obtain ⟨dC, dI, hKc⟩ : ∃ (dC : Nat → ClassId) (dI : Nat → Nat → Nat), ∀ (k : Nat) (q : vw_C), vwCl[k]? = some q → u_Kn s q.1 q.2.1 q.2.2 (dC k) (dI k) := by
    refine ⟨fun k => if k = 0 then c0 else if k = 1 then c1 else if k = 2 then c2 else if k = 3 then c3 else if k = 4 then c4 else if k = 5 then c5 else c6, fun k => if k = 0 then i0 else if k = 1 then i1 else if k = 2 then i2 else if k = 3 then i3 else if k = 4 then i4 else if k = 5 then i5 else i6, ?_⟩
    intro k q hq
    match k, hq with
    | 0, hq => cases hq; exact k0
    | 1, hq => cases hq; exact k1
    | 2, hq => cases hq; exact k2
    | 3, hq => cases hq; exact k3
    | 4, hq => cases hq; exact k4
    | 5, hq => cases hq; exact k5
    | 6, hq => cases hq; exact k6
    | k + 7, hq => simp [vwCl] at hq
  have hA : va_K (dC, dI) vwCl [(aI, .int), (aZ, .boolean), (aC, .char), (aQ, .object "KiteStrings$Sky")] s := by
    refine ⟨hKc, fun k q hq => ?_⟩
    match k, hq with
    | 0, hq => cases hq; exact ⟨fun n z => ⟨fun k h => (by cases h), kI, hI1, pI, hI2⟩, fI⟩
    | 1, hq => cases hq; exact ⟨fun n z => ⟨fun k h => (by cases h), kZ, hZ1, pZ, hZ2⟩, fZ⟩
    | 2, hq => cases hq; exact ⟨fun n z => ⟨fun k h => (by cases h), kC, hC1, pC, hC2⟩, fC⟩
    | 3, hq => cases hq; exact ⟨fun n z => ⟨fun k h => (by cases h), kQ, hQ3, pQ, hQ4⟩, kQ, pQ, hQ3, hQ4, hQ1, hQ5⟩
    | k + 4, hq => simp at hq
  obtain ⟨g, hgd⟩ : ∃ g : zGeo, g = zge s.heap.size (dC, dI) (fun t => if t = 0 then aI else if t = 1 then aZ else if t = 2 then aC else aQ) := ⟨_, rfl⟩
  have hK : zK g s := by
    subst hgd
    refine ⟨hA, fun w hw => word_at (State.WarmedH.refl s) (zT_ok hw) (hts _ (List.mem_filter.mp hw).1), fun q hq => ?_⟩
    simp only [zNests, List.mem_cons, List.not_mem_nil, or_false] at hq
    subst hq
    exact va_Nw.of rfl (hts (.methodLinkNest RX2 92 yX6_isWithin "KiteStrings") (by decide +kernel))
  have hKc2 : zKc g s := ⟨hK, hAO⟩
  have hg : zAd g s.heap.size := by subst hgd; exact zge_ad
  have S : CallFix p m c code 21 s #[Value.ref b] zT RL := ⟨hx, hb, hml, hown, fun w hw => hts w (List.mem_filter.mp hw).1⟩
  have hl := lv_entry ([.ref b]) (n := 21) (Nat.le_of_ble_eq_true rfl)
  rw [lg_entry_eq]
  generalize (lg_sl ([.ref b]) ++ List.replicate (21 - (lg_sl ([.ref b])).length) Slot.unset).toArray = ls at hl ⊢
  have hl : lv_has ls 21 [(0, .ref b)] := hl
  have hS : va_S (zS s.heap.size) s.heap s.heap [] := va_S.rf
  have hE : zSeg g s.heap.size [] s.heap := ⟨rfl, fun c e h => by simp at h⟩
  refine zs_new (ci := 6) (fs := [.null, .null, .null, .null, .null, .null, .null, .null]) (b := s.heap.size) S hKc2 hE hS rfl wc_L_32 wn_X6 wi_X6 tyX6 tyX6_ok dfX6 rfl (Nat.le_of_ble_eq_true rfl) (Nat.le_of_ble_eq_true rfl) dL_law_0 (fun H hE hS => ?_)
  refine lv_dup S.1 S.2.1 dL_law_3 rfl ?_
  refine zs_ctor (es := []) (e0 := .inr (6, [.null, .null, .null, .null, .null, .null, .null, .null])) (b := s.heap.size) (ns := zeKS g s.heap.size) S hKc2 hE hS (Nat.le_refl _) rfl (kX6_init l s.heap.size) rfl rfl ⟨Nat.le_of_ble_eq_true rfl, Nat.le_of_ble_eq_true rfl⟩ wm_L_66 wv_X6_init wi_X6 wk_X6_init rfl hX6_init hl.1 (Nat.le_of_ble_eq_true rfl) dL_law_4 ⟨Nat.le_of_ble_eq_true rfl, Nat.le_of_ble_eq_true rfl⟩ (fun H locs hE hS => ?_)
  have hE : zSeg g s.heap.size (zeKS g s.heap.size) H := hE
  refine lv_astore_n (lv' := [(1, .ref s.heap.size), (0, .ref b)]) S.1 S.2.1 dL_law_7 rfl hl (by decide) rfl (fun ls hl => ?_)
  refine lv_iconst (v := 4) S.1 S.2.1 dL_law_8 (by decide) ?_
  refine zs_newa (atype := .int) (t := 0) (N := 4) (b := s.heap.size + 158) S hKc2 hE hS wa_FieldTypeint (hKc2.1.1.2 0 _ rfl).2 rfl (by decide) (by decide) (by decide) rfl (Nat.le_of_ble_eq_true rfl) (Nat.le_of_ble_eq_true rfl) dL_law_9 (fun H hE hS => ?_)
  have hE : zSeg g s.heap.size ((zeKS g s.heap.size) ++ [.inl ((g).2.2 0, 4, .inl (fun _ => 0))]) H := hE
  refine lv_astore_n (lv' := [(2, .ref (s.heap.size + 158)), (1, .ref s.heap.size), (0, .ref b)]) S.1 S.2.1 dL_law_11 rfl hl (by decide) rfl (fun ls hl => ?_)
  refine lv_bipush (v := 48) S.1 S.2.1 dL_law_12 (by decide) ?_
  refine zs_newa (atype := .int) (t := 0) (N := 48) (b := s.heap.size + 159) S hKc2 hE hS wa_FieldTypeint (hKc2.1.1.2 0 _ rfl).2 rfl (by decide) (by decide) (by decide) rfl (Nat.le_of_ble_eq_true rfl) (Nat.le_of_ble_eq_true rfl) dL_law_14 (fun H hE hS => ?_)
  have hE : zSeg g s.heap.size (((zeKS g s.heap.size) ++ [.inl ((g).2.2 0, 4, .inl (fun _ => 0))]) ++ [.inl ((g).2.2 0, 48, .inl (fun _ => 0))]) H := hE
  refine lv_astore_n (lv' := [(3, .ref (s.heap.size + 159)), (2, .ref (s.heap.size + 158)), (1, .ref s.heap.size), (0, .ref b)]) S.1 S.2.1 dL_law_16 rfl hl (by decide) rfl (fun ls hl => ?_)
  refine lv_bipush (v := 64) S.1 S.2.1 dL_law_17 (by decide) ?_
  refine zs_newa (atype := .int) (t := 0) (N := 64) (b := s.heap.size + 160) S hKc2 hE hS wa_FieldTypeint (hKc2.1.1.2 0 _ rfl).2 rfl (by decide) (by decide) (by decide) rfl (Nat.le_of_ble_eq_true rfl) (Nat.le_of_ble_eq_true rfl) dL_law_19 (fun H hE hS => ?_)
  have hE : zSeg g s.heap.size ((((zeKS g s.heap.size) ++ [.inl ((g).2.2 0, 4, .inl (fun _ => 0))]) ++ [.inl ((g).2.2 0, 48, .inl (fun _ => 0))]) ++ [.inl ((g).2.2 0, 64, .inl (fun _ => 0))]) H := hE
  refine lv_astore (lv' := [(4, .ref (s.heap.size + 160)), (3, .ref (s.heap.size + 159)), (2, .ref (s.heap.size + 158)), (1, .ref s.heap.size), (0, .ref b)]) S.1 S.2.1 dL_law_21 hl (by decide) rfl (fun ls hl => ?_)
  refine lv_bipush (v := 64) S.1 S.2.1 dL_law_23 (by decide) ?_
  refine zs_newa (atype := .int) (t := 0) (N := 64) (b := s.heap.size + 161) S hKc2 hE hS wa_FieldTypeint (hKc2.1.1.2 0 _ rfl).2 rfl (by decide) (by decide) (by decide) rfl (Nat.le_of_ble_eq_true rfl) (Nat.le_of_ble_eq_true rfl) dL_law_25 (fun H hE hS => ?_)
  have hE : zSeg g s.heap.size (((((zeKS g s.heap.size) ++ [.inl ((g).2.2 0, 4, .inl (fun _ => 0))]) ++ [.inl ((g).2.2 0, 48, .inl (fun _ => 0))]) ++ [.inl ((g).2.2 0, 64, .inl (fun _ => 0))]) ++ [.inl ((g).2.2 0, 64, .inl (fun _ => 0))]) H := hE
  refine lv_astore (lv' := [(5, .ref (s.heap.size + 161)), (4, .ref (s.heap.size + 160)), (3, .ref (s.heap.size + 159)), (2, .ref (s.heap.size + 158)), (1, .ref s.heap.size), (0, .ref b)]) S.1 S.2.1 dL_law_27 hl (by decide) rfl (fun ls hl => ?_)
  refine lv_bipush (v := 16) S.1 S.2.1 dL_law_29 (by decide) ?_
  refine zs_newa (atype := .int) (t := 0) (N := 16) (b := s.heap.size + 162) S hKc2 hE hS wa_FieldTypeint (hKc2.1.1.2 0 _ rfl).2 rfl (by decide) (by decide) (by decide) rfl (Nat.le_of_ble_eq_true rfl) (Nat.le_of_ble_eq_true rfl) dL_law_31 (fun H hE hS => ?_)
  have hE : zSeg g s.heap.size ((((((zeKS g s.heap.size) ++ [.inl ((g).2.2 0, 4, .inl (fun _ => 0))]) ++ [.inl ((g).2.2 0, 48, .inl (fun _ => 0))]) ++ [.inl ((g).2.2 0, 64, .inl (fun _ => 0))]) ++ [.inl ((g).2.2 0, 64, .inl (fun _ => 0))]) ++ [.inl ((g).2.2 0, 16, .inl (fun _ => 0))]) H := hE
  refine lv_astore (lv' := [(6, .ref (s.heap.size + 162)), (5, .ref (s.heap.size + 161)), (4, .ref (s.heap.size + 160)), (3, .ref (s.heap.size + 159)), (2, .ref (s.heap.size + 158)), (1, .ref s.heap.size), (0, .ref b)]) S.1 S.2.1 dL_law_33 hl (by decide) rfl (fun ls hl => ?_)
  refine lv_iconst (v := 4) S.1 S.2.1 dL_law_35 (by decide) ?_
  refine zs_newa (atype := .int) (t := 0) (N := 4) (b := s.heap.size + 163) S hKc2 hE hS wa_FieldTypeint (hKc2.1.1.2 0 _ rfl).2 rfl (by decide) (by decide) (by decide) rfl (Nat.le_of_ble_eq_true rfl) (Nat.le_of_ble_eq_true rfl) dL_law_36 (fun H hE hS => ?_)
  have hE : zSeg g s.heap.size (((((((zeKS g s.heap.size) ++ [.inl ((g).2.2 0, 4, .inl (fun _ => 0))]) ++ [.inl ((g).2.2 0, 48, .inl (fun _ => 0))]) ++ [.inl ((g).2.2 0, 64, .inl (fun _ => 0))]) ++ [.inl ((g).2.2 0, 64, .inl (fun _ => 0))]) ++ [.inl ((g).2.2 0, 16, .inl (fun _ => 0))]) ++ [.inl ((g).2.2 0, 4, .inl (fun _ => 0))]) H := hE
  refine lv_astore (lv' := [(7, .ref (s.heap.size + 163)), (6, .ref (s.heap.size + 162)), (5, .ref (s.heap.size + 161)), (4, .ref (s.heap.size + 160)), (3, .ref (s.heap.size + 159)), (2, .ref (s.heap.size + 158)), (1, .ref s.heap.size), (0, .ref b)]) S.1 S.2.1 dL_law_38 hl (by decide) rfl (fun ls hl => ?_)
  refine lv_bipush (v := 48) S.1 S.2.1 dL_law_40 (by decide) ?_
  refine zs_newa (atype := .int) (t := 0) (N := 48) (b := s.heap.size + 164) S hKc2 hE hS wa_FieldTypeint (hKc2.1.1.2 0 _ rfl).2 rfl (by decide) (by decide) (by decide) rfl (Nat.le_of_ble_eq_true rfl) (Nat.le_of_ble_eq_true rfl) dL_law_42 (fun H hE hS => ?_)
  have hE : zSeg g s.heap.size ((((((((zeKS g s.heap.size) ++ [.inl ((g).2.2 0, 4, .inl (fun _ => 0))]) ++ [.inl ((g).2.2 0, 48, .inl (fun _ => 0))]) ++ [.inl ((g).2.2 0, 64, .inl (fun _ => 0))]) ++ [.inl ((g).2.2 0, 64, .inl (fun _ => 0))]) ++ [.inl ((g).2.2 0, 16, .inl (fun _ => 0))]) ++ [.inl ((g).2.2 0, 4, .inl (fun _ => 0))]) ++ [.inl ((g).2.2 0, 48, .inl (fun _ => 0))]) H := hE
  refine lv_astore (lv' := [(8, .ref (s.heap.size + 164)), (7, .ref (s.heap.size + 163)), (6, .ref (s.heap.size + 162)), (5, .ref (s.heap.size + 161)), (4, .ref (s.heap.size + 160)), (3, .ref (s.heap.size + 159)), (2, .ref (s.heap.size + 158)), (1, .ref s.heap.size), (0, .ref b)]) S.1 S.2.1 dL_law_44 hl (by decide) rfl (fun ls hl => ?_)
  refine lv_bipush (v := 64) S.1 S.2.1 dL_law_46 (by decide) ?_
  refine zs_newa (atype := .int) (t := 0) (N := 64) (b := s.heap.size + 165) S hKc2 hE hS wa_FieldTypeint (hKc2.1.1.2 0 _ rfl).2 rfl (by decide) (by decide) (by decide) rfl (Nat.le_of_ble_eq_true rfl) (Nat.le_of_ble_eq_true rfl) dL_law_48 (fun H hE hS => ?_)
  have hE : zSeg g s.heap.size (((((((((zeKS g s.heap.size) ++ [.inl ((g).2.2 0, 4, .inl (fun _ => 0))]) ++ [.inl ((g).2.2 0, 48, .inl (fun _ => 0))]) ++ [.inl ((g).2.2 0, 64, .inl (fun _ => 0))]) ++ [.inl ((g).2.2 0, 64, .inl (fun _ => 0))]) ++ [.inl ((g).2.2 0, 16, .inl (fun _ => 0))]) ++ [.inl ((g).2.2 0, 4, .inl (fun _ => 0))]) ++ [.inl ((g).2.2 0, 48, .inl (fun _ => 0))]) ++ [.inl ((g).2.2 0, 64, .inl (fun _ => 0))]) H := hE
  refine lv_astore (lv' := [(9, .ref (s.heap.size + 165)), (8, .ref (s.heap.size + 164)), (7, .ref (s.heap.size + 163)), (6, .ref (s.heap.size + 162)), (5, .ref (s.heap.size + 161)), (4, .ref (s.heap.size + 160)), (3, .ref (s.heap.size + 159)), (2, .ref (s.heap.size + 158)), (1, .ref s.heap.size), (0, .ref b)]) S.1 S.2.1 dL_law_50 hl (by decide) rfl (fun ls hl => ?_)
  refine lv_bipush (v := 64) S.1 S.2.1 dL_law_52 (by decide) ?_
  refine zs_newa (atype := .int) (t := 0) (N := 64) (b := s.heap.size + 166) S hKc2 hE hS wa_FieldTypeint (hKc2.1.1.2 0 _ rfl).2 rfl (by decide) (by decide) (by decide) rfl (Nat.le_of_ble_eq_true rfl) (Nat.le_of_ble_eq_true rfl) dL_law_54 (fun H hE hS => ?_)
  have hE : zSeg g s.heap.size ((((((((((zeKS g s.heap.size) ++ [.inl ((g).2.2 0, 4, .inl (fun _ => 0))]) ++ [.inl ((g).2.2 0, 48, .inl (fun _ => 0))]) ++ [.inl ((g).2.2 0, 64, .inl (fun _ => 0))]) ++ [.inl ((g).2.2 0, 64, .inl (fun _ => 0))]) ++ [.inl ((g).2.2 0, 16, .inl (fun _ => 0))]) ++ [.inl ((g).2.2 0, 4, .inl (fun _ => 0))]) ++ [.inl ((g).2.2 0, 48, .inl (fun _ => 0))]) ++ [.inl ((g).2.2 0, 64, .inl (fun _ => 0))]) ++ [.inl ((g).2.2 0, 64, .inl (fun _ => 0))]) H := hE
  refine lv_astore (lv' := [(10, .ref (s.heap.size + 166)), (9, .ref (s.heap.size + 165)), (8, .ref (s.heap.size + 164)), (7, .ref (s.heap.size + 163)), (6, .ref (s.heap.size + 162)), (5, .ref (s.heap.size + 161)), (4, .ref (s.heap.size + 160)), (3, .ref (s.heap.size + 159)), (2, .ref (s.heap.size + 158)), (1, .ref s.heap.size), (0, .ref b)]) S.1 S.2.1 dL_law_56 hl (by decide) rfl (fun ls hl => ?_)
  refine lv_iconst (v := 0) S.1 S.2.1 dL_law_58 (by decide) ?_
  refine lv_istore (lv' := [(11, .int 0), (10, .ref (s.heap.size + 166)), (9, .ref (s.heap.size + 165)), (8, .ref (s.heap.size + 164)), (7, .ref (s.heap.size + 163)), (6, .ref (s.heap.size + 162)), (5, .ref (s.heap.size + 161)), (4, .ref (s.heap.size + 160)), (3, .ref (s.heap.size + 159)), (2, .ref (s.heap.size + 158)), (1, .ref s.heap.size), (0, .ref b)]) S.1 S.2.1 dL_law_59 hl (by decide) rfl (fun ls hl => ?_)
  have hR : zR g zM0 H := by subst hgd; exact zR_init hE
  refine W.widen (k := 167) (n := 3522) (by decide) (by decide) ?_
  have e0 : g.1 0 0 = s.heap.size := by rw [hgd]; rfl
  have e26 : g.1 26 0 = s.heap.size + 158 := by rw [hgd]; rfl
  have e27 : g.1 27 0 = s.heap.size + 159 := by rw [hgd]; rfl
  have e28 : g.1 28 0 = s.heap.size + 160 := by rw [hgd]; rfl
  have e29 : g.1 29 0 = s.heap.size + 161 := by rw [hgd]; rfl
  have e30 : g.1 30 0 = s.heap.size + 162 := by rw [hgd]; rfl
  have e31 : g.1 31 0 = s.heap.size + 163 := by rw [hgd]; rfl
  have e32 : g.1 32 0 = s.heap.size + 164 := by rw [hgd]; rfl
  have e33 : g.1 33 0 = s.heap.size + 165 := by rw [hgd]; rfl
  have e34 : g.1 34 0 = s.heap.size + 166 := by rw [hgd]; rfl
  have hl : lv_has ls 21 [(0, .ref b), (1, .ref (g.1 0 0)), (2, .ref (g.1 26 0)), (3, .ref (g.1 27 0)), (4, .ref (g.1 28 0)), (5, .ref (g.1 29 0)), (6, .ref (g.1 30 0)), (7, .ref (g.1 31 0)), (8, .ref (g.1 32 0)), (9, .ref (g.1 33 0)), (10, .ref (g.1 34 0)), (11, .int 0)] := by
    rw [e0, e26, e27, e28, e29, e30, e31, e32, e33, e34]
    exact lv_sub hl [11, 10, 9, 8, 7, 6, 5, 4, 3, 2, 1, 0] rfl
  have hlf : meth.locks = false := hlocks
  have hend : ∀ (M : zM) (a11 : Int32) (H : Heap) (locs : List Loc), zR g M H → va_S (zS s.heap.size) s.heap H locs → ∀ ls : Array Slot, lv_has ls 21 [(0, .ref b), (1, .ref (g.1 0 0)), (2, .ref (g.1 26 0)), (3, .ref (g.1 27 0)), (4, .ref (g.1 28 0)), (5, .ref (g.1 29 0)), (6, .ref (g.1 30 0)), (7, .ref (g.1 31 0)), (8, .ref (g.1 32 0)), (9, .ref (g.1 33 0)), (10, .ref (g.1 34 0)), (11, .int a11)] → (fun (M : zM) (_ : Int32) => some ((1 : Int32), M)) M a11 = some (1, M9) → W p l e room_1 s m #[Value.ref b] below meth c H locs 167 3522 (lw_Z below #[Value.ref b] s) (F0 m 977 ls []) := by
    intro M a11 H locs hR hS ls hl _
    refine lv_iconst (v := 1) S.1 S.2.1 dL_law_977 (by decide) ?_
    refine va_forget (fun q hq => hS.2.2 q hq) ?_
    refine W.widen (k := 600000) (n := 7302250) (by omega) (by omega) ?_
    exact lw_ret S.1 S.2.1 hr hlf dL_law_978
  exact lL_61 S hr hg hK hX hbl hbl hL ⟨Nat.le_of_ble_eq_true rfl, Nat.le_of_ble_eq_true rfl⟩ (fun M _ => some (1, M)) hend 2000 zM0 0 H locs hR hS ls hl hF
