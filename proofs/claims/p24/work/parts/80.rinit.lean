set_option maxRecDepth 100000 in
set_option maxHeartbeats 16000000 in
theorem zR_init {z : Nat} {D : va_G} {cA : Nat → ClassId} {H : Heap} (hE : zSeg (zge z D cA) z ((((((((((zeKS (zge z D cA) z) ++ [.inl (((zge z D cA)).2.2 0, 4, .inl (fun _ => 0))]) ++ [.inl (((zge z D cA)).2.2 0, 48, .inl (fun _ => 0))]) ++ [.inl (((zge z D cA)).2.2 0, 64, .inl (fun _ => 0))]) ++ [.inl (((zge z D cA)).2.2 0, 64, .inl (fun _ => 0))]) ++ [.inl (((zge z D cA)).2.2 0, 16, .inl (fun _ => 0))]) ++ [.inl (((zge z D cA)).2.2 0, 4, .inl (fun _ => 0))]) ++ [.inl (((zge z D cA)).2.2 0, 48, .inl (fun _ => 0))]) ++ [.inl (((zge z D cA)).2.2 0, 64, .inl (fun _ => 0))]) ++ [.inl (((zge z D cA)).2.2 0, 64, .inl (fun _ => 0))]) H) : zR (zge z D cA) zM0 H := by
  have hE' : zSeg (zge z D cA) z (zeKS (zge z D cA) z ++ [.inl (((zge z D cA)).2.2 0, 4, .inl (fun _ => 0)), .inl (((zge z D cA)).2.2 0, 48, .inl (fun _ => 0)), .inl (((zge z D cA)).2.2 0, 64, .inl (fun _ => 0)), .inl (((zge z D cA)).2.2 0, 64, .inl (fun _ => 0)), .inl (((zge z D cA)).2.2 0, 16, .inl (fun _ => 0)), .inl (((zge z D cA)).2.2 0, 4, .inl (fun _ => 0)), .inl (((zge z D cA)).2.2 0, 48, .inl (fun _ => 0)), .inl (((zge z D cA)).2.2 0, 64, .inl (fun _ => 0)), .inl (((zge z D cA)).2.2 0, 64, .inl (fun _ => 0))]) H := by
    simpa only [List.append_assoc, List.cons_append, List.nil_append] using hE
  have hlen : (zeKS (zge z D cA) z).length = 158 := rfl
  have hA : ∀ (c : Nat) (e : va_E), (zeKS (zge z D cA) z)[c]? = some e → va_at (zge z D cA).2.1 vwCl (z + c, e) H := fun c e h => hE'.2 c e (by rw [List.getElem?_append_left (List.getElem?_eq_some_iff.mp h).1]; exact h)
  have hB : ∀ (c : Nat) (e : va_E), ([.inl (((zge z D cA)).2.2 0, 4, .inl (fun _ => 0)), .inl (((zge z D cA)).2.2 0, 48, .inl (fun _ => 0)), .inl (((zge z D cA)).2.2 0, 64, .inl (fun _ => 0)), .inl (((zge z D cA)).2.2 0, 64, .inl (fun _ => 0)), .inl (((zge z D cA)).2.2 0, 16, .inl (fun _ => 0)), .inl (((zge z D cA)).2.2 0, 4, .inl (fun _ => 0)), .inl (((zge z D cA)).2.2 0, 48, .inl (fun _ => 0)), .inl (((zge z D cA)).2.2 0, 64, .inl (fun _ => 0)), .inl (((zge z D cA)).2.2 0, 64, .inl (fun _ => 0))] : List va_E)[c]? = some e → va_at (zge z D cA).2.1 vwCl (z + (158 + c), e) H := fun c e h => hE'.2 (158 + c) e (by rw [List.getElem?_append_right (by rw [hlen]; omega), hlen, Nat.add_sub_cancel_left]; exact h)
  intro k i hi
  have hk : k < 35 := by
    rcases Nat.lt_or_ge k 35 with q | q
    · exact q
    · have : zcnt k = 0 := by
        unfold zcnt
        rw [List.getD_eq_getElem?_getD, List.getElem?_eq_none (by show zcl.length ≤ k; exact q)]
        rfl
      omega
  obtain rfl | rfl | rfl | rfl | rfl | rfl | rfl | rfl | rfl | rfl | rfl | rfl | rfl | rfl | rfl | rfl | rfl | rfl | rfl | rfl | rfl | rfl | rfl | rfl | rfl | rfl | rfl | rfl | rfl | rfl | rfl | rfl | rfl | rfl | rfl : k = 0 ∨ k = 1 ∨ k = 2 ∨ k = 3 ∨ k = 4 ∨ k = 5 ∨ k = 6 ∨ k = 7 ∨ k = 8 ∨ k = 9 ∨ k = 10 ∨ k = 11 ∨ k = 12 ∨ k = 13 ∨ k = 14 ∨ k = 15 ∨ k = 16 ∨ k = 17 ∨ k = 18 ∨ k = 19 ∨ k = 20 ∨ k = 21 ∨ k = 22 ∨ k = 23 ∨ k = 24 ∨ k = 25 ∨ k = 26 ∨ k = 27 ∨ k = 28 ∨ k = 29 ∨ k = 30 ∨ k = 31 ∨ k = 32 ∨ k = 33 ∨ k = 34 := by omega
  · exact z1 (P := fun i => va_at (zge z D cA).2.1 vwCl ((zge z D cA).1 0 i, zent (zge z D cA) 0 i (zM0 0 i)) H) (hA 0 _ rfl) hi
  · exact z10 (P := fun i => va_at (zge z D cA).2.1 vwCl ((zge z D cA).1 1 i, zent (zge z D cA) 1 i (zM0 1 i)) H) (hA 1 _ rfl) (hA 15 _ rfl) (hA 42 _ rfl) (hA 56 _ rfl) (hA 70 _ rfl) (hA 84 _ rfl) (hA 98 _ rfl) (hA 112 _ rfl) (hA 127 _ rfl) (hA 142 _ rfl) hi
  · exact z10 (P := fun i => va_at (zge z D cA).2.1 vwCl ((zge z D cA).1 2 i, zent (zge z D cA) 2 i (zM0 2 i)) H) (hA 2 _ rfl) (hA 16 _ rfl) (hA 43 _ rfl) (hA 57 _ rfl) (hA 71 _ rfl) (hA 85 _ rfl) (hA 99 _ rfl) (hA 113 _ rfl) (hA 128 _ rfl) (hA 143 _ rfl) hi
  · exact z10 (P := fun i => va_at (zge z D cA).2.1 vwCl ((zge z D cA).1 3 i, zent (zge z D cA) 3 i (zM0 3 i)) H) (hA 3 _ rfl) (hA 17 _ rfl) (hA 44 _ rfl) (hA 58 _ rfl) (hA 72 _ rfl) (hA 86 _ rfl) (hA 100 _ rfl) (hA 114 _ rfl) (hA 129 _ rfl) (hA 144 _ rfl) hi
  · exact z10 (P := fun i => va_at (zge z D cA).2.1 vwCl ((zge z D cA).1 4 i, zent (zge z D cA) 4 i (zM0 4 i)) H) (hA 4 _ rfl) (hA 18 _ rfl) (hA 45 _ rfl) (hA 59 _ rfl) (hA 73 _ rfl) (hA 87 _ rfl) (hA 101 _ rfl) (hA 115 _ rfl) (hA 130 _ rfl) (hA 145 _ rfl) hi
  · exact z10 (P := fun i => va_at (zge z D cA).2.1 vwCl ((zge z D cA).1 5 i, zent (zge z D cA) 5 i (zM0 5 i)) H) (hA 5 _ rfl) (hA 19 _ rfl) (hA 46 _ rfl) (hA 60 _ rfl) (hA 74 _ rfl) (hA 88 _ rfl) (hA 102 _ rfl) (hA 116 _ rfl) (hA 131 _ rfl) (hA 146 _ rfl) hi
  · exact z10 (P := fun i => va_at (zge z D cA).2.1 vwCl ((zge z D cA).1 6 i, zent (zge z D cA) 6 i (zM0 6 i)) H) (hA 6 _ rfl) (hA 20 _ rfl) (hA 47 _ rfl) (hA 61 _ rfl) (hA 75 _ rfl) (hA 89 _ rfl) (hA 103 _ rfl) (hA 117 _ rfl) (hA 132 _ rfl) (hA 147 _ rfl) hi
  · exact z10 (P := fun i => va_at (zge z D cA).2.1 vwCl ((zge z D cA).1 7 i, zent (zge z D cA) 7 i (zM0 7 i)) H) (hA 7 _ rfl) (hA 21 _ rfl) (hA 48 _ rfl) (hA 62 _ rfl) (hA 76 _ rfl) (hA 90 _ rfl) (hA 104 _ rfl) (hA 118 _ rfl) (hA 133 _ rfl) (hA 148 _ rfl) hi
  · exact z10 (P := fun i => va_at (zge z D cA).2.1 vwCl ((zge z D cA).1 8 i, zent (zge z D cA) 8 i (zM0 8 i)) H) (hA 8 _ rfl) (hA 22 _ rfl) (hA 49 _ rfl) (hA 63 _ rfl) (hA 77 _ rfl) (hA 91 _ rfl) (hA 105 _ rfl) (hA 119 _ rfl) (hA 134 _ rfl) (hA 149 _ rfl) hi
  · exact z10 (P := fun i => va_at (zge z D cA).2.1 vwCl ((zge z D cA).1 9 i, zent (zge z D cA) 9 i (zM0 9 i)) H) (hA 9 _ rfl) (hA 23 _ rfl) (hA 50 _ rfl) (hA 64 _ rfl) (hA 78 _ rfl) (hA 92 _ rfl) (hA 106 _ rfl) (hA 120 _ rfl) (hA 135 _ rfl) (hA 150 _ rfl) hi
  · exact z10 (P := fun i => va_at (zge z D cA).2.1 vwCl ((zge z D cA).1 10 i, zent (zge z D cA) 10 i (zM0 10 i)) H) (hA 10 _ rfl) (hA 24 _ rfl) (hA 51 _ rfl) (hA 65 _ rfl) (hA 79 _ rfl) (hA 93 _ rfl) (hA 107 _ rfl) (hA 121 _ rfl) (hA 136 _ rfl) (hA 151 _ rfl) hi
  · exact z10 (P := fun i => va_at (zge z D cA).2.1 vwCl ((zge z D cA).1 11 i, zent (zge z D cA) 11 i (zM0 11 i)) H) (hA 11 _ rfl) (hA 25 _ rfl) (hA 52 _ rfl) (hA 66 _ rfl) (hA 80 _ rfl) (hA 94 _ rfl) (hA 108 _ rfl) (hA 122 _ rfl) (hA 137 _ rfl) (hA 152 _ rfl) hi
  · exact z10 (P := fun i => va_at (zge z D cA).2.1 vwCl ((zge z D cA).1 12 i, zent (zge z D cA) 12 i (zM0 12 i)) H) (hA 12 _ rfl) (hA 26 _ rfl) (hA 53 _ rfl) (hA 67 _ rfl) (hA 81 _ rfl) (hA 95 _ rfl) (hA 109 _ rfl) (hA 123 _ rfl) (hA 138 _ rfl) (hA 153 _ rfl) hi
  · exact z10 (P := fun i => va_at (zge z D cA).2.1 vwCl ((zge z D cA).1 13 i, zent (zge z D cA) 13 i (zM0 13 i)) H) (hA 13 _ rfl) (hA 27 _ rfl) (hA 54 _ rfl) (hA 68 _ rfl) (hA 82 _ rfl) (hA 96 _ rfl) (hA 110 _ rfl) (hA 124 _ rfl) (hA 139 _ rfl) (hA 154 _ rfl) hi
  · exact z10 (P := fun i => va_at (zge z D cA).2.1 vwCl ((zge z D cA).1 14 i, zent (zge z D cA) 14 i (zM0 14 i)) H) (hA 14 _ rfl) (hA 28 _ rfl) (hA 55 _ rfl) (hA 69 _ rfl) (hA 83 _ rfl) (hA 97 _ rfl) (hA 111 _ rfl) (hA 125 _ rfl) (hA 140 _ rfl) (hA 155 _ rfl) hi
  · exact z2 (P := fun i => va_at (zge z D cA).2.1 vwCl ((zge z D cA).1 15 i, zent (zge z D cA) 15 i (zM0 15 i)) H) (hA 29 _ rfl) (hA 35 _ rfl) hi
  · exact z2 (P := fun i => va_at (zge z D cA).2.1 vwCl ((zge z D cA).1 16 i, zent (zge z D cA) 16 i (zM0 16 i)) H) (hA 30 _ rfl) (hA 36 _ rfl) hi
  · exact z2 (P := fun i => va_at (zge z D cA).2.1 vwCl ((zge z D cA).1 17 i, zent (zge z D cA) 17 i (zM0 17 i)) H) (hA 31 _ rfl) (hA 37 _ rfl) hi
  · exact z2 (P := fun i => va_at (zge z D cA).2.1 vwCl ((zge z D cA).1 18 i, zent (zge z D cA) 18 i (zM0 18 i)) H) (hA 32 _ rfl) (hA 38 _ rfl) hi
  · exact z2 (P := fun i => va_at (zge z D cA).2.1 vwCl ((zge z D cA).1 19 i, zent (zge z D cA) 19 i (zM0 19 i)) H) (hA 33 _ rfl) (hA 39 _ rfl) hi
  · exact z1 (P := fun i => va_at (zge z D cA).2.1 vwCl ((zge z D cA).1 20 i, zent (zge z D cA) 20 i (zM0 20 i)) H) (hA 34 _ rfl) hi
  · exact z1 (P := fun i => va_at (zge z D cA).2.1 vwCl ((zge z D cA).1 21 i, zent (zge z D cA) 21 i (zM0 21 i)) H) (hA 40 _ rfl) hi
  · refine z1 (P := fun i => va_at (zge z D cA).2.1 vwCl ((zge z D cA).1 22 i, zent (zge z D cA) 22 i (zM0 22 i)) H) ?_ hi
    have h : H[z + 41]? = some (vp_cell (cA 3) (6, .inr (.inr (.inr (.inr (va_up (va_up (va_up (va_up (va_up (va_up (fun _ => none) (zN 0) (some (z + 40 + 2))) (zN 1) (some (z + 40 + 16))) (zN 2) (some (z + 40 + 30))) (zN 3) (some (z + 40 + 44))) (zN 4) (some (z + 40 + 58))) (zN 5) (some (z + 40 + 72)))))))) := hA 41 _ rfl
    show H[z + 41]? = some (vp_cell (cA 3) (6, .inr (.inr (.inr (.inr (fun j => some ((zge z D cA).1 1 (2 + j))))))))
    rw [h]
    refine congrArg some (zcellq_congr (fun j hj => ?_))
    obtain rfl | rfl | rfl | rfl | rfl | rfl : j = 0 ∨ j = 1 ∨ j = 2 ∨ j = 3 ∨ j = 4 ∨ j = 5 := by omega
    all_goals rfl
  · exact z2 (P := fun i => va_at (zge z D cA).2.1 vwCl ((zge z D cA).1 23 i, zent (zge z D cA) 23 i (zM0 23 i)) H) (hA 126 _ rfl) (hA 141 _ rfl) hi
  · exact z1 (P := fun i => va_at (zge z D cA).2.1 vwCl ((zge z D cA).1 24 i, zent (zge z D cA) 24 i (zM0 24 i)) H) (hA 156 _ rfl) hi
  · exact z1 (P := fun i => va_at (zge z D cA).2.1 vwCl ((zge z D cA).1 25 i, zent (zge z D cA) 25 i (zM0 25 i)) H) (hA 157 _ rfl) hi
  · exact z1 (P := fun i => va_at (zge z D cA).2.1 vwCl ((zge z D cA).1 26 i, zent (zge z D cA) 26 i (zM0 26 i)) H) (hB 0 _ rfl) hi
  · exact z1 (P := fun i => va_at (zge z D cA).2.1 vwCl ((zge z D cA).1 27 i, zent (zge z D cA) 27 i (zM0 27 i)) H) (hB 1 _ rfl) hi
  · exact z1 (P := fun i => va_at (zge z D cA).2.1 vwCl ((zge z D cA).1 28 i, zent (zge z D cA) 28 i (zM0 28 i)) H) (hB 2 _ rfl) hi
  · exact z1 (P := fun i => va_at (zge z D cA).2.1 vwCl ((zge z D cA).1 29 i, zent (zge z D cA) 29 i (zM0 29 i)) H) (hB 3 _ rfl) hi
  · exact z1 (P := fun i => va_at (zge z D cA).2.1 vwCl ((zge z D cA).1 30 i, zent (zge z D cA) 30 i (zM0 30 i)) H) (hB 4 _ rfl) hi
  · exact z1 (P := fun i => va_at (zge z D cA).2.1 vwCl ((zge z D cA).1 31 i, zent (zge z D cA) 31 i (zM0 31 i)) H) (hB 5 _ rfl) hi
  · exact z1 (P := fun i => va_at (zge z D cA).2.1 vwCl ((zge z D cA).1 32 i, zent (zge z D cA) 32 i (zM0 32 i)) H) (hB 6 _ rfl) hi
  · exact z1 (P := fun i => va_at (zge z D cA).2.1 vwCl ((zge z D cA).1 33 i, zent (zge z D cA) 33 i (zM0 33 i)) H) (hB 7 _ rfl) hi
  · exact z1 (P := fun i => va_at (zge z D cA).2.1 vwCl ((zge z D cA).1 34 i, zent (zge z D cA) 34 i (zM0 34 i)) H) (hB 8 _ rfl) hi
