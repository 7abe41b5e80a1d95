/-! ===== calls: count, kite ===== -/
theorem l2_air {M : zM} {j : Nat} {A : zA} (h : zok A) (hA : zcA M j = A) {k : zM → Int32 → Int32 → Option (Int32 × zM)} : ∀ (c i n : Nat) (m : Int32), i + c = 6 → c < n →
    fX2_flyingKites_L4 k j n M m (nI i) = k M (zf (fun p m => if zfly A p = true then m ||| zbit p else m) c i m) (nI 6) := by
  intro c
  induction c with
  | zero =>
    intro i n m hi hn
    obtain ⟨n, rfl⟩ : ∃ q, n = q + 1 := ⟨n - 1, by omega⟩
    obtain rfl : i = 6 := by omega
    rfl
  | succ c ih =>
    intro i n m hi hn
    obtain ⟨n, rfl⟩ : ∃ q, n = q + 1 := ⟨n - 1, by omega⟩
    unfold fX2_flyingKites_L4
    have hc : ¬ (6 : Int32) ≤ nI i := nI_ge (a := i) (b := 6) (by omega) (by omega)
    have hf := e2_fly (M := M) (j := j) (k := i) (by rw [hA]; exact h) (by omega)
    rw [hA] at hf
    rw [if_neg hc, hf, zC_some]
    show _ = k M (zf _ c (i + 1) (if zfly A i = true then m ||| zbit i else m)) (nI 6)
    cases hq : zfly A i with
    | false => rw [if_pos (show zb false = 0 from rfl), if_neg (by decide), zL_eq, nI_1]; exact ih (i + 1) n m (by omega) (by omega)
    | true => rw [if_neg (show ¬ zb true = 0 by decide), if_pos rfl, zL_eq, zL_eq, nI_1]; exact ih (i + 1) n _ (by omega) (by omega)
theorem e2_air {M : zM} {j : Nat} {A : zA} (h : zok A) (hA : zcA M j = A) : fX2_flyingKites M j = some (zmk (zfly A), M) := by
  unfold fX2_flyingKites
  exact l2_air h hA (k := fun M26 v27 v28 => some (v27, M26)) 6 0 2000 0 (by omega) (by omega)
theorem l7_air {N : zM} {A : zA} {K : Nat} (h : zok A) (hK : zKn A = K) (hA : zrA (N 27 0) = A) {k : zM → Int32 → Int32 → Option (Int32 × zM)} : ∀ (c i n : Nat) (m : Int32), i + c = K → c < n →
    fX7_inTheAir_L4 k n N m (nI i) = k N (zf (fun p m => if zfly A p = true then m ||| zbit p else m) c i m) (nI K) := by
  have hK6 : K ≤ 6 := by rw [← hK]; exact h.2.1
  have h0 : N 27 0 (zN 0) = nI K := by rw [r60 hA, ← hK]; exact h.1
  intro c
  induction c with
  | zero =>
    intro i n m hi hn
    obtain ⟨n, rfl⟩ : ∃ q, n = q + 1 := ⟨n - 1, by omega⟩
    obtain rfl : i = K := by omega
    unfold fX7_inTheAir_L4
    rw [zI_eq (by decide), h0, if_pos (by rw [zle (by omega) (by omega)]; omega)]
    rfl
  | succ c ih =>
    intro i n m hi hn
    obtain ⟨n, rfl⟩ : ∃ q, n = q + 1 := ⟨n - 1, by omega⟩
    unfold fX7_inTheAir_L4
    have hf := e7_fly (M := N) (k := i) (by rw [hA, hK]; omega) (by rw [hA]; exact h.2.1)
    rw [hA] at hf
    rw [zI_eq (by decide), h0, if_neg (by rw [zle (by omega) (by omega)]; omega), hf, zC_some]
    show _ = k N (zf _ c (i + 1) (if zfly A i = true then m ||| zbit i else m)) (nI K)
    cases hq : zfly A i with
    | false => rw [if_pos (show zb false = 0 from rfl), if_neg (by decide), zL_eq, zL_eq, or0, nI_1]; exact ih (i + 1) n m (by omega) (by omega)
    | true => rw [if_neg (show ¬ zb true = 0 by decide), if_pos rfl, zL_eq, zL_eq, nI_1]; exact ih (i + 1) n _ (by omega) (by omega)
theorem e7_air {N : zM} {A : zA} (h : zok A) (hA : zrA (N 27 0) = A) : fX7_inTheAir N = some (zmk (zfly A), N) := by
  unfold fX7_inTheAir
  have e := l7_air h rfl hA (k := fun M27 v28 v29 => some (v28, M27)) (zKn A) 0 2000 0 (by omega) (by have := h.2.1; omega)
  rw [show (0 : Int32) = nI 0 from rfl] at e ⊢
  rw [e]
  congr 2
  exact (zf_cut h.2.1 _ (fun p h1 h2 m => by
    show (if zfly A p = true then m ||| zbit p else m) = m
    rw [if_neg (fun hf => by have := (zfly_lt hf).1; omega)])).symm
/-! all points -/
def zsp (A : zA) : Int32 := zf (fun p s => s + A p 7) (zKn A) 0 0
theorem l2_pts {M : zM} {j : Nat} {A : zA} (h : zok A) (hA : zcA M j = A) {k : zM → Int32 → Int32 → Option (Int32 × zM)} : ∀ (c i n : Nat) (m : Int32), i + c = 6 → c < n →
    fX2_allPoints_L4 k j n M m (nI i) = k M (zf (fun p s => if p < zKn A then s + A p 7 else s) c i m) (nI 6) := by
  intro c
  induction c with
  | zero =>
    intro i n m hi hn
    obtain ⟨n, rfl⟩ : ∃ q, n = q + 1 := ⟨n - 1, by omega⟩
    obtain rfl : i = 6 := by omega
    rfl
  | succ c ih =>
    intro i n m hi hn
    obtain ⟨n, rfl⟩ : ∃ q, n = q + 1 := ⟨n - 1, by omega⟩
    unfold fX2_allPoints_L4
    have hc : ¬ (6 : Int32) ≤ nI i := nI_ge (a := i) (b := 6) (by omega) (by omega)
    have hf := e2_has (M := M) (j := j) (v := nI i) (by rw [hA]; exact h)
    rw [hA, zhas_of (by omega)] at hf
    rw [if_neg hc, hf, zC_some, zI_eq (zix_nI (show i < 6 by omega) (by omega)), zN_nI (by omega), zr7 (M := M) (show i < 6 by omega), hA]
    show _ = k M (zf _ c (i + 1) (if i < zKn A then m + A i 7 else m)) (nI 6)
    by_cases hq : i < zKn A
    · rw [if_neg (by rw [decide_eq_true hq]; decide), if_pos hq, zL_eq, zL_eq, nI_1]; exact ih (i + 1) n _ (by omega) (by omega)
    · rw [if_pos (by rw [decide_eq_false hq]; rfl), if_neg hq, zL_eq, nI_1]; exact ih (i + 1) n m (by omega) (by omega)
theorem e2_pts {M : zM} {j : Nat} {A : zA} (h : zok A) (hA : zcA M j = A) : fX2_allPoints M j = some (zsp A, M) := by
  unfold fX2_allPoints zsp
  have e := l2_pts h hA (k := fun M26 v27 v28 => some (v27, M26)) 6 0 2000 0 (by omega) (by omega)
  rw [show (0 : Int32) = nI 0 from rfl] at e ⊢
  rw [e]
  congr 2
  rw [zf_cut h.2.1 _ (fun p h1 h2 m => by
    show (if p < zKn A then m + A p 7 else m) = m
    rw [if_neg (by omega)])]
  exact zf_congr _ _ _ (fun p h1 h2 s => by
    show (if p < zKn A then s + A p 7 else s) = s + A p 7
    rw [if_pos (by omega)])
theorem l7_pts {N : zM} {A : zA} {K : Nat} (h : zok A) (hK : zKn A = K) (hA : zrA (N 27 0) = A) {k : zM → Int32 → Int32 → Option (Int32 × zM)} : ∀ (c i n : Nat) (m : Int32), i + c = K → c < n →
    fX7_allPoints_L4 k n N m (nI i) = k N (zf (fun p s => s + A p 7) c i m) (nI K) := by
  have hK6 : K ≤ 6 := by rw [← hK]; exact h.2.1
  have h0 : N 27 0 (zN 0) = nI K := by rw [r60 hA, ← hK]; exact h.1
  intro c
  induction c with
  | zero =>
    intro i n m hi hn
    obtain ⟨n, rfl⟩ : ∃ q, n = q + 1 := ⟨n - 1, by omega⟩
    obtain rfl : i = K := by omega
    unfold fX7_allPoints_L4
    rw [zI_eq (by decide), h0, if_pos (by rw [zle (by omega) (by omega)]; omega)]
    rfl
  | succ c ih =>
    intro i n m hi hn
    obtain ⟨n, rfl⟩ : ∃ q, n = q + 1 := ⟨n - 1, by omega⟩
    unfold fX7_allPoints_L4
    rw [zI_eq (by decide), h0, if_neg (by rw [zle (by omega) (by omega)]; omega), e7_p7 (by omega), zC_some, zL_eq, zL_eq, hA, nI_1]
    exact ih (i + 1) n _ (by omega) (by omega)
theorem e7_pts {N : zM} {A : zA} (h : zok A) (hA : zrA (N 27 0) = A) : fX7_allPoints N = some (zsp A, N) := by
  unfold fX7_allPoints zsp
  have e := l7_pts h rfl hA (k := fun M25 v26 v27 => some (v26, M25)) (zKn A) 0 2000 0 (by omega) (by have := h.2.1; omega)
  exact e
/-! the leader -/
def zld (A : zA) : Nat := zf (fun p m => if A p 7 ≤ A m 7 then m else p) (zKn A - 1) 1 0
theorem l2_lead {M : zM} {j : Nat} {A : zA} (h : zok A) (hA : zcA M j = A) {k : zM → Int32 → Int32 → Option (Int32 × zM)} : ∀ (c i n m : Nat), i + c = 6 → m < 6 → c < n →
    fX2_leader_L14 k j n M (nI m) (nI i) = k M (nI (zf (fun p m => if p < zKn A then (if A p 7 ≤ A m 7 then m else p) else m) c i m)) (nI 6) := by
  intro c
  induction c with
  | zero =>
    intro i n m hi hm hn
    obtain ⟨n, rfl⟩ : ∃ q, n = q + 1 := ⟨n - 1, by omega⟩
    obtain rfl : i = 6 := by omega
    rfl
  | succ c ih =>
    intro i n m hi hm hn
    obtain ⟨n, rfl⟩ : ∃ q, n = q + 1 := ⟨n - 1, by omega⟩
    unfold fX2_leader_L14
    have hc : ¬ (6 : Int32) ≤ nI i := nI_ge (a := i) (b := 6) (by omega) (by omega)
    have hf := e2_has (M := M) (j := j) (v := nI i) (by rw [hA]; exact h)
    rw [hA, zhas_of (by omega)] at hf
    rw [if_neg hc, hf, zC_some, zI_eq (zix_nI (show i < 6 by omega) (by omega)), zI_eq (zix_nI hm (by omega)), zN_nI (show i < 2 ^ 31 by omega), zN_nI (show m < 2 ^ 31 by omega), zr7 (M := M) (show i < 6 by omega), zr7 (M := M) hm, hA]
    show _ = k M (nI (zf _ c (i + 1) (if i < zKn A then (if A i 7 ≤ A m 7 then m else i) else m))) (nI 6)
    by_cases hq : i < zKn A
    · rw [if_neg (by rw [decide_eq_true hq]; decide), if_pos hq, zL_eq, zL_eq, nI_1]
      by_cases hr : A i 7 ≤ A m 7
      · rw [if_pos hr, if_pos hr]; exact ih (i + 1) n m (by omega) hm (by omega)
      · rw [if_neg hr, if_neg hr]; exact ih (i + 1) n i (by omega) (by omega) (by omega)
    · rw [if_pos (by rw [decide_eq_false hq]; rfl), if_neg hq, zL_eq, nI_1]; exact ih (i + 1) n m (by omega) hm (by omega)
theorem e2_lead {M : zM} {j : Nat} {A : zA} (h : zok A) (hA : zcA M j = A) : fX2_leader M j = some (if zKn A = 0 then -6 else nI (zld A), M) := by
  have h10 : M 1 j 0 = nI (zKn A) := by rw [← hA]; rw [hA]; rw [← h.1, ← hA]; rfl
  unfold fX2_leader
  rw [h10, show (0 : Int32) = nI 0 from rfl]
  have hK := h.2.1
  by_cases h0 : zKn A = 0
  · rw [if_pos (by rw [h0]), if_pos h0]
  · rw [if_neg (by rw [zeq (by omega) (by omega)]; exact h0), if_neg h0, show (1 : Int32) = nI 1 from rfl, l2_lead h hA 5 1 2000 0 (by omega) (by omega) (by omega)]
    congr 3
    unfold zld
    rw [show zf (fun p m => if p < zKn A then (if A p 7 ≤ A m 7 then m else p) else m) 5 1 0 = zf (fun p m => if p < zKn A then (if A p 7 ≤ A m 7 then m else p) else m) ((zKn A - 1) + (6 - zKn A)) 1 0 by congr 1; omega, zf_split, zf_id _ _ _ (fun p h1 h2 m => by
      show (if p < zKn A then (if A p 7 ≤ A m 7 then m else p) else m) = m
      rw [if_neg (by omega)])]
    exact zf_congr _ _ _ (fun p h1 h2 m => by
      show (if p < zKn A then (if A p 7 ≤ A m 7 then m else p) else m) = if A p 7 ≤ A m 7 then m else p
      rw [if_pos (by omega)])
theorem l7_lead {N : zM} {A : zA} {K : Nat} (h : zok A) (hK : zKn A = K) (hA : zrA (N 27 0) = A) {k : zM → Int32 → Int32 → Option (Int32 × zM)} : ∀ (c i n m : Nat), i + c = K → m < 6 → c < n →
    fX7_leader_L5 k n N (nI m) (nI i) = k N (nI (zf (fun p m => if A p 7 ≤ A m 7 then m else p) c i m)) (nI K) := by
  have hK6 : K ≤ 6 := by rw [← hK]; exact h.2.1
  have h0 : N 27 0 (zN 0) = nI K := by rw [r60 hA, ← hK]; exact h.1
  intro c
  induction c with
  | zero =>
    intro i n m hi hm hn
    obtain ⟨n, rfl⟩ : ∃ q, n = q + 1 := ⟨n - 1, by omega⟩
    obtain rfl : i = K := by omega
    unfold fX7_leader_L5
    rw [zI_eq (by decide), h0, if_pos (by rw [zle (by omega) (by omega)]; omega)]
    rfl
  | succ c ih =>
    intro i n m hi hm hn
    obtain ⟨n, rfl⟩ : ∃ q, n = q + 1 := ⟨n - 1, by omega⟩
    unfold fX7_leader_L5
    rw [zI_eq (by decide), h0, if_neg (by rw [zle (by omega) (by omega)]; omega), if_neg (n6_ne (by omega)), e7_p7 (by omega), zC_some, e7_p7 hm, zC_some, zL_eq, zL_eq, hA, nI_1]
    show _ = k N (nI (zf _ c (i + 1) (if A i 7 ≤ A m 7 then m else i))) (nI K)
    by_cases hr : A i 7 ≤ A m 7
    · rw [if_pos hr, if_pos hr]; exact ih (i + 1) n m (by omega) hm (by omega)
    · rw [if_neg hr, if_neg hr]; exact ih (i + 1) n i (by omega) (by omega) (by omega)
theorem e7_lead {N : zM} {A : zA} (h : zok A) (hA : zrA (N 27 0) = A) : fX7_leader N = some (if zKn A = 0 then -6 else nI (zld A), N) := by
  have hK := h.2.1
  have h0 : N 27 0 (zN 0) = nI (zKn A) := by rw [r60 hA]; exact h.1
  unfold fX7_leader
  rw [show (2000 : Nat) = 1999 + 1 from rfl]
  unfold fX7_leader_L5
  rw [zI_eq (by decide), h0]
  by_cases hz : zKn A = 0
  · rw [hz, if_pos (by decide), if_pos rfl]
  · rw [if_neg (by rw [show (0 : Int32) = nI 0 from rfl, zle (by omega) (by omega)]; omega), if_pos rfl, zL_eq, if_neg hz, show (0 : Int32) + 1 = nI 1 from rfl, show (0 : Int32) = nI 0 from rfl, l7_lead h rfl hA (zKn A - 1) 1 1999 0 (by omega) (by omega) (by omega)]
    rfl
