def zsb (i : Nat) : Nat := if i = 0 then 1 else if i = 1 then 15 else if i < 8 then 42 + 14 * (i - 2) else if i = 8 then 127 else 142
def zoff (k i : Nat) : Nat := if k = 0 then 0 else if k ≤ 14 then zsb i + (k - 1) else if k ≤ 19 then (if i = 0 then 29 else 35) + (k - 15) else if k = 20 then 34 else if k ≤ 22 then 40 + (k - 21) else if k = 23 then (if i = 0 then 126 else 141) else 156 + (k - 24)
theorem zoff_inj : zall.all (fun q => zall.all (fun r => !(zoff q.1 q.2 == zoff r.1 r.2) || q == r)) = true := by decide +kernel
def zge (z : Nat) (D : va_G) (cA : Nat → ClassId) : zGeo := (fun k i => z + zoff k i, D, cA)
theorem zge_ad {z : Nat} {D : va_G} {cA : Nat → ClassId} : zAd (zge z D cA) z := by
  refine ⟨fun k i _ => Nat.le_add_right _ _, fun k i k' i' h h' he => ?_⟩
  have h1 : zoff k i = zoff k' i' := Nat.add_left_cancel he
  have h2 := List.all_eq_true.mp (List.all_eq_true.mp zoff_inj _ (zall_mem h)) _ (zall_mem h')
  simp only [Bool.or_eq_true, Bool.not_eq_true', beq_eq_false_iff_ne, beq_iff_eq] at h2
  rcases h2 with h2 | h2
  · exact absurd h1 h2
  · exact ⟨congrArg Prod.fst h2, congrArg Prod.snd h2⟩
theorem z10 {P : Nat → Prop} (h0 : P 0) (h1 : P 1) (h2 : P 2) (h3 : P 3) (h4 : P 4) (h5 : P 5) (h6 : P 6) (h7 : P 7) (h8 : P 8) (h9 : P 9) {i : Nat} (hi : i < 10) : P i := by
  obtain rfl | rfl | rfl | rfl | rfl | rfl | rfl | rfl | rfl | rfl : i = 0 ∨ i = 1 ∨ i = 2 ∨ i = 3 ∨ i = 4 ∨ i = 5 ∨ i = 6 ∨ i = 7 ∨ i = 8 ∨ i = 9 := by omega
  · exact h0
  · exact h1
  · exact h2
  · exact h3
  · exact h4
  · exact h5
  · exact h6
  · exact h7
  · exact h8
  · exact h9
theorem z2 {P : Nat → Prop} (h0 : P 0) (h1 : P 1) {i : Nat} (hi : i < 2) : P i := by
  obtain rfl | rfl : i = 0 ∨ i = 1 := by omega
  · exact h0
  · exact h1
theorem z1 {P : Nat → Prop} (h0 : P 0) {i : Nat} (hi : i < 1) : P i := by
  obtain rfl : i = 0 := by omega
  exact h0
theorem zcellq_congr {cA : ClassId} {n : Nat} {f f' : Nat → Option Nat} (h : ∀ j, j < n → f j = f' j) : vp_cell cA (n, .inr (.inr (.inr (.inr f)))) = vp_cell cA (n, .inr (.inr (.inr (.inr f')))) := by
  rw [vp_cell_q, vp_cell_q]
  unfold arrV
  congr 1
  apply Array.ext
  · simp
  · intro i h1 h2
    simp only [Array.getElem_ofFn]
    rw [h i (by simpa using h1)]
def zM0 : zM := fun _ _ _ => 0
