/-! ===== a kite is launched; all turns ===== -/
section ZRUN
variable {rec k : zM → Int32 → Option (Int32 × zM)} {xs : Nat → Int32} {L : Nat}
theorem eL_J300 {M : zM} {A : zA} {t : Nat} {a13 v1 v2 v3 v4 v5 : Int32} (hi : zIA M A) (hK : zKn A < 4) (hz : zzr A) (hX : zLA 26 M = zp (zp (zp (zp (zp (zf (fun p A' => zp A' (zKn A) p 0) 12 0 A) (zKn A) 0 v1) (zKn A) 1 v2) (zKn A) 2 v3) (zKn A) 5 v4) (zKn A) 6 v5) (w1 : 0 ≤ v1.toInt ∧ v1.toInt ≤ 63) (w2 : 0 ≤ v2.toInt ∧ v2.toInt ≤ 63) (w3 : 1 ≤ v3.toInt ∧ v3.toInt ≤ 47) (w4 : 0 ≤ v4.toInt ∧ v4.toInt ≤ 5) (w5 : 10 ≤ v5.toInt ∧ v5.toInt ≤ 200) :
    ∃ M' B, fL_law_J300 rec k xs L M (nI t) a13 (12 * nI (zKn A)) = rec M' (nI (t + 1)) ∧ zTn M' B ∧ zKn B = zKn A + 1 := by
  have hok := hi.ok
  obtain ⟨K, hKe⟩ : ∃ K, K = zKn A := ⟨_, rfl⟩
  rw [← hKe] at hX hK ⊢
  obtain ⟨M1, e1, f1, -⟩ := eL_copy (k1 := 27) (n1 := 48) (k2 := 32) (n2 := 48) (N := 48) (M := M) (by omega) (by omega) (by omega) (by omega) (by omega)
  have e1' : fL_copy M 27 48 32 48 48 = some ((), M1) := e1
  have c1 : zLA 26 M1 = zLA 26 M := zLA_eq (fun k h1 h2 => f1 k 0 (by omega))
  have rd : ∀ (M : zM) (p : Nat), p < 12 → M 27 0 (12 * K + p) = zLA 26 M K p := fun M p hp => zla (b := 26) hK hp
  have wr : ∀ (M : zM) (p : Nat) (v : Int32), p < 12 → zLA 26 (zw M 27 0 (12 * K + p) v) = zp (zLA 26 M) K p v := fun M p v hp => zlc (b := 26) hK hp
  unfold fL_law_J300
  rw [e1', zC_some, zx9, zx10, zx11, zx1, zx2, zx5, zx6, zx0]
  simp only [zxI hK (show 0 < 12 by omega), zxI hK (show 1 < 12 by omega), zxI hK (show 2 < 12 by omega), zxI hK (show 5 < 12 by omega), zxI hK (show 6 < 12 by omega), zxI hK (show 9 < 12 by omega), zxI hK (show 10 < 12 by omega), zxI hK (show 11 < 12 by omega), zxN hK (show 0 < 12 by omega), zxN hK (show 1 < 12 by omega), zxN hK (show 2 < 12 by omega), zxN hK (show 5 < 12 by omega), zxN hK (show 6 < 12 by omega), zxN hK (show 9 < 12 by omega), zxN hK (show 10 < 12 by omega), zxN hK (show 11 < 12 by omega), zL_eq]
  rw [c1.symm] at hX
  have x0 : M1 27 0 (12 * K + 0) = v1 := by rw [rd M1 0 (by omega), hX]; simp [zp]
  rw [x0]
  generalize hM2 : zw M1 27 0 (12 * K + 9) v1 = M2
  have c2 : zLA 26 M2 = zp (zLA 26 M1) K 9 v1 := by rw [← hM2, wr M1 9 _ (by omega)]
  have x1 : M2 27 0 (12 * K + 1) = v2 := by rw [rd M2 1 (by omega), c2, hX]; simp [zp]
  rw [x1]
  generalize hM3 : zw M2 27 0 (12 * K + 10) v2 = M3
  have c3 : zLA 26 M3 = zp (zp (zLA 26 M1) K 9 v1) K 10 v2 := by rw [← hM3, wr M2 10 _ (by omega), c2]
  have x2 : M3 27 0 (12 * K + 2) = v3 := by rw [rd M3 2 (by omega), c3, hX]; simp [zp]
  rw [x2]
  generalize hM4 : zw M3 27 0 (12 * K + 11) v3 = M4
  have c4 : zLA 26 M4 = zlD A K v1 v2 v3 v4 v5 := by
    rw [← hM4, wr M3 11 _ (by omega), c3, hX, hKe]
    exact zln_is hz (by omega)
  have cx : zLA 26 M4 = zp (zp (zp (zLA 26 M1) K 9 v1) K 10 v2) K 11 v3 := by rw [← hM4, wr M3 11 _ (by omega), c3]
  have y0 : M4 27 0 (12 * K + 0) = v1 := by rw [rd M4 0 (by omega), cx, hX]; simp [zp]
  have y1 : M4 27 0 (12 * K + 1) = v2 := by rw [rd M4 1 (by omega), cx, hX]; simp [zp]
  have y2 : M4 27 0 (12 * K + 2) = v3 := by rw [rd M4 2 (by omega), cx, hX]; simp [zp]
  have y5 : M4 27 0 (12 * K + 5) = v4 := by rw [rd M4 5 (by omega), cx, hX]; simp [zp]
  have y6 : M4 27 0 (12 * K + 6) = v5 := by rw [rd M4 6 (by omega), cx, hX]; simp [zp]
  have lo : zlo M M4 := fun k' i' hk => by
    rw [← hM4, zw_ne (by omega), ← hM3, zw_ne (by omega), ← hM2, zw_ne (by omega), f1 k' i' (by omega)]
  rw [y0, y1, y2, y5, y6]
  obtain ⟨M5, e5, i5, f5⟩ := p_launch (lo.IA hi) (by omega) w1 w2 w3 w4 w5
  have c5 : zLA 26 M5 = zlD A K v1 v2 v3 v4 v5 := by rw [zLA_eq (fun k h1 h2 => f5 k 0 (by omega))]; exact c4
  have k5 : M5 26 0 (zN 0) = nI K := by
    show M5 26 0 0 = _
    rw [zls6 (b := 26) (M := M5) (by omega), c5, zlD_nk (by omega), hok.1, hKe]
  rw [e5, zC_some, zI_eq (by decide), zI_eq (by decide), k5, if_pos (by rw [hKe])]
  rw [← hKe] at i5
  have c6 : zLA 26 (zw M5 26 0 (zN 0) (nI K + 1)) = zln A K v1 v2 v3 v4 v5 := by
    rw [show zLA 26 (zw M5 26 0 (zN 0) (nI K + 1)) = zp (zLA 26 M5) 6 0 (nI K + 1) from zlcs (b := 26) (p := 0) (by omega), c5, ← zln_eq (by omega), zlD_nk (k := 6) (by omega), hok.1, hKe]
  have i6 : zIA (zw M5 26 0 (zN 0) (nI K + 1)) (zln A K v1 v2 v3 v4 v5) := ((zfb.w (b := 26) (M := M5) (k := 26) (i := 0) (s := zN 0) (v := nI K + 1) (by omega)).lo (by omega)).IA i5
  obtain ⟨hzB, hKB⟩ := hz.ln hok (v1 := v1) (v2 := v2) (v3 := v3) (v4 := v4) (v5 := v5) (by omega)
  rw [← hKe] at hzB hKB
  obtain ⟨M7, e7, s7⟩ := eL_J911 (rec := rec) (k := k) (xs := xs) (L := L) (t := t) (a13 := a13) (M := zw M5 26 0 (zN 0) (nI K + 1)) ⟨⟨i6, c6⟩, by omega, hzB⟩ (by omega)
  exact ⟨M7, _, e7, s7, hKB⟩
theorem zlw_b {v : Int32} {n a b : Nat} {x : Int32} (hx : x = nI (a + zlw v n)) (h : 0 < n) (hb : a + n ≤ b + 1) (h31 : b < 2 ^ 31) : (a : Int) ≤ x.toInt ∧ x.toInt ≤ (b : Int) := by rw [hx]; exact zlo_i h hb h31
theorem eL_launch {M : zM} {A : zA} {t : Nat} {a12 a13 a15 a16 a17 : Int32} (h : zTn M A) (hK : zKn A < 4) : ∃ M' B, fL_law_J161 rec k xs L M (nI t) a12 a13 0 a15 a16 a17 = rec M' (nI (t + 1)) ∧ zTn M' B ∧ zKn B = zKn A + 1 := by
  obtain ⟨hs, h4, hz⟩ := h
  unfold fL_law_J161
  rw [if_pos rfl, zI_eq (by decide), hs.n, if_neg (by rw [show (4 : Int32) = nI 4 from rfl, zle (by omega) (by omega)]; omega), zI_eq (by decide), zL_eq]
  have key : ∀ (kk : zM → Int32 → Option (Int32 × zM)) (P : Option (Int32 × zM) → Prop), (∀ M1, zLA 26 M1 = zf (fun p A' => zp A' (zKn A) p 0) 12 0 A → zIA M1 A → P (kk M1 (nI 12))) → P (fL_law_L184 kk xs L (nI t) a12 a13 (12 * nI (zKn A)) 2000 M 0) := by
    intro kk P hk
    obtain ⟨M1, e1, c1, f1⟩ := lA_0 hK (xs := xs) (L := L) (a11 := nI t) (a12 := a12) (a13 := a13) (k := kk) 12 0 2000 M (by omega) (by omega)
    have e1' : fL_law_L184 kk xs L (nI t) a12 a13 (12 * nI (zKn A)) 2000 M 0 = _ := e1
    rw [e1']
    exact hk M1 (by rw [c1, hs.2]) ((f1.lo (by omega)).IA hs.1)
  refine key _ (fun o => ∃ M' B, o = rec M' (nI (t + 1)) ∧ zTn M' B ∧ zKn B = zKn A + 1) fun M1 c1 i1 => ?_
  have wr : ∀ (M : zM) (p : Nat) (v : Int32), p < 12 → zLA 26 (zw M 27 0 (12 * zKn A + p) v) = zp (zLA 26 M) (zKn A) p v := fun M p v hp => zlc (b := 26) hK hp
  have hlo : ∀ (M : zM) (s : Nat) (v : Int32), zlo M (zw M 27 0 s v) := fun M s v k' i' hk => zw_ne (by omega)
  have L64 : ∀ v M, fL_low M v 64 = some (nI (zlw v 64), M) := fun v M => eL_low (n := 64) (by omega) (by omega)
  have L47 : ∀ v M, fL_low M v 47 = some (nI (zlw v 47), M) := fun v M => eL_low (n := 47) (by omega) (by omega)
  have L6 : ∀ v M, fL_low M v 6 = some (nI (zlw v 6), M) := fun v M => eL_low (n := 6) (by omega) (by omega)
  have L3 : ∀ v M, fL_low M v 3 = some (nI (zlw v 3), M) := fun v M => eL_low (n := 3) (by omega) (by omega)
  have L191 : ∀ v M, fL_low M v 191 = some (nI (zlw v 191), M) := fun v M => eL_low (n := 191) (by omega) (by omega)
  have L30 : ∀ v M, fL_low M v 30 = some (nI (zlw v 30), M) := fun v M => eL_low (n := 30) (by omega) (by omega)
  have n1 : ∀ m, (1 : Int32) + nI m = nI (1 + m) := fun m => nI_add 1 m
  have n10 : ∀ m, (10 : Int32) + nI m = nI (10 + m) := fun m => nI_add 10 m
  try dsimp only
  rw [zx1, zx2, zx5, zx6]
  simp only [L64, L47, L6, L3, L191, L30, zC_some, n1, n10, zL_eq]
  have fin : ∀ v5 : Int32, 10 ≤ v5.toInt ∧ v5.toInt ≤ 200 → ∃ M' B, (fL_law_J300 rec k xs L (zw (zw (zw (zw (zw M1 27 0 (12 * zKn A + 0) (nI (zlw (a12 >>> (5 &&& 31)) 64))) 27 0 (12 * zKn A + 1) (nI (zlw (a12 >>> (11 &&& 31)) 64))) 27 0 (12 * zKn A + 2) (nI (1 + zlw a13 47))) 27 0 (12 * zKn A + 5) (nI (zlw (a13 >>> (6 &&& 31)) 6))) 27 0 (12 * zKn A + 6) v5) (nI t) a13 (12 * nI (zKn A))) = rec M' (nI (t + 1)) ∧ zTn M' B ∧ zKn B = zKn A + 1 := by
    intro v5 w5
    refine eL_J300 (A := A) ((((((hlo _ _ _).trans (hlo _ _ _)).trans (hlo _ _ _)).trans (hlo _ _ _)).trans (hlo _ _ _)).IA i1) hK hz ?_ (zlw_b (v := a12 >>> (5 &&& 31)) (n := 64) (a := 0) (b := 63) (by rw [Nat.zero_add]) (by omega) (by omega) (by omega)) (zlw_b (v := a12 >>> (11 &&& 31)) (n := 64) (a := 0) (b := 63) (by rw [Nat.zero_add]) (by omega) (by omega) (by omega)) (zlw_b (v := a13) (n := 47) (a := 1) (b := 47) rfl (by omega) (by omega) (by omega)) (zlw_b (v := a13 >>> (6 &&& 31)) (n := 6) (a := 0) (b := 5) (by rw [Nat.zero_add]) (by omega) (by omega) (by omega)) w5
    rw [wr _ 6 _ (by omega), wr _ 5 _ (by omega), wr _ 2 _ (by omega), wr _ 1 _ (by omega), wr _ 0 _ (by omega), c1]
  simp only [zx0, zxI hK (show 0 < 12 by omega), zxI hK (show 1 < 12 by omega), zxI hK (show 2 < 12 by omega), zxI hK (show 5 < 12 by omega), zxI hK (show 6 < 12 by omega), zxN hK (show 0 < 12 by omega), zxN hK (show 1 < 12 by omega), zxN hK (show 2 < 12 by omega), zxN hK (show 5 < 12 by omega), zxN hK (show 6 < 12 by omega)]
  by_cases h3 : nI (zlw a13 3) = 0
  · rw [if_pos h3]
    have := fin (nI (10 + zlw (a13 >>> (9 &&& 31)) 191)) (zlw_b (v := a13 >>> (9 &&& 31)) (n := 191) (a := 10) (b := 200) rfl (by omega) (by omega) (by omega))
    rw [zx0] at this
    exact this
  · rw [if_neg h3]
    have := fin (nI (10 + zlw (a13 >>> (9 &&& 31)) 30)) (zlw_b (v := a13 >>> (9 &&& 31)) (n := 30) (a := 10) (b := 200) rfl (by omega) (by omega) (by omega))
    rw [zx0] at this
    exact this
theorem eL_J161 {M : zM} {A : zA} {t j : Nat} {a12 a13 a14 : Int32} (h : zTn M A) (h0 : 0 < zKn A) (hj : j < zKn A) : ∃ M' B, fL_law_J161 rec k xs L M (nI t) a12 a13 a14 (nI j) (12 * nI j) (zb (zfly A j)) = rec M' (nI (t + 1)) ∧ zTn M' B ∧ zKn A ≤ zKn B := by
  obtain ⟨M1, B1, e1, s1, k1⟩ := eL_order (rec := rec) (k := k) (xs := xs) (L := L) (t := t) (a13 := a13) (a14 := a14) h h0 hj
  by_cases h14 : a14 = 0
  · by_cases hK : zKn A < 4
    · rw [h14]
      obtain ⟨M2, B2, e2, s2, k2⟩ := eL_launch (rec := rec) (k := k) (xs := xs) (L := L) (t := t) (a12 := a12) (a13 := a13) (a15 := nI j) (a16 := (12 : Int32) * nI j) (a17 := zb (zfly A j)) h hK
      exact ⟨M2, B2, e2, s2, by omega⟩
    · refine ⟨M1, B1, ?_, s1, by omega⟩
      unfold fL_law_J161
      rw [if_pos h14, zI_eq (by decide), h.1.n, if_pos (by rw [show (4 : Int32) = nI 4 from rfl, zle (by omega) (by have := h.2.1; omega)]; omega)]
      exact e1
  · refine ⟨M1, B1, ?_, s1, by omega⟩
    unfold fL_law_J161
    rw [if_neg h14]
    exact e1
theorem eL_J131 {M : zM} {A : zA} {t j : Nat} {a12 a13 a14 : Int32} (h : zTn M A) (h0 : 0 < zKn A) (hj : j < zKn A) : ∃ M' B, fL_law_J131 rec k xs L M (nI t) a12 a13 a14 (nI j) = rec M' (nI (t + 1)) ∧ zTn M' B ∧ zKn A ≤ zKn B := by
  have h4 := h.2.1
  have hj4 : j < 4 := by omega
  obtain ⟨M1, B1, e1, s1, k1⟩ := eL_J161 (rec := rec) (k := k) (xs := xs) (L := L) (t := t) (a12 := a12) (a13 := a13) (a14 := a14) h h0 hj
  refine ⟨M1, B1, ?_, s1, k1⟩
  unfold fL_law_J131
  rw [zL_eq, zI_eq (by decide), h.1.n, if_neg (by rw [show (0 : Int32) = nI 0 from rfl, zle (by omega) (by omega)]; omega), zx8, zxI hj4 (by omega), zxN hj4 (by omega), h.1.r hj4 (show 8 < 12 by omega)]
  rw [zfly_is hj] at e1
  by_cases c : A j 8 = 0
  · rw [decide_eq_true c] at e1
    rw [if_pos c]; exact e1
  · rw [decide_eq_false c] at e1
    rw [if_neg c]; exact e1
theorem eL_J109 {M : zM} {A : zA} {t : Nat} {a12 a13 a14 : Int32} (h : zTn M A) (h0 : 0 < zKn A ∨ (a14 = 0 ∧ zKn A < 4)) : ∃ M' B, fL_law_J109 rec k xs L M (nI t) a12 a13 a14 = rec M' (nI (t + 1)) ∧ zTn M' B ∧ zKn A ≤ zKn B ∧ (a14 = 0 → zKn A < 4 → zKn B = zKn A + 1) := by
  have h4 := h.2.1
  unfold fL_law_J109
  rw [zI_eq (by decide), h.1.n]
  by_cases hK : zKn A = 0
  · rw [if_pos (by rw [hK]; rfl)]
    obtain ⟨h14, hK4⟩ : a14 = 0 ∧ zKn A < 4 := by rcases h0 with h0 | h0; omega; exact h0
    rw [h14]
    unfold fL_law_J131
    rw [zL_eq, zI_eq (by decide), h.1.n, if_pos (by rw [hK]; exact Int32.le_refl _)]
    obtain ⟨M2, B2, e2, s2, k2⟩ := eL_launch (rec := rec) (k := k) (xs := xs) (L := L) (t := t) (a12 := a12) (a13 := a13) (a15 := 0) (a16 := (12 : Int32) * 0) (a17 := 0) h hK4
    exact ⟨M2, B2, e2, s2, by omega, fun _ _ => k2⟩
  · rw [if_neg (by rw [show (0 : Int32) = nI 0 from rfl, zeq (by omega) (by omega)]; exact hK), zI_eq (by decide), eL_low (by omega) (by omega), zC_some]
    have hj := zlw_lt (v := a12 >>> (4 &&& 31)) (n := zKn A) (by omega)
    by_cases hc : a14 = 0 ∧ zKn A < 4
    · obtain ⟨h14, hK4⟩ := hc
      rw [h14]
      have hj4 : zlw (a12 >>> (4 &&& 31)) (zKn A) < 4 := by omega
      unfold fL_law_J131
      rw [zL_eq, zI_eq (by decide), h.1.n, if_neg (by rw [show (0 : Int32) = nI 0 from rfl, zle (by omega) (by omega)]; omega), zx8, zxI hj4 (by omega), zxN hj4 (by omega), h.1.r hj4 (show 8 < 12 by omega)]
      by_cases c : A (zlw (a12 >>> (4 &&& 31)) (zKn A)) 8 = 0
      · rw [if_pos c]
        obtain ⟨M2, B2, e2, s2, k2⟩ := eL_launch (rec := rec) (k := k) (xs := xs) (L := L) (t := t) (a12 := a12) (a13 := a13) (a15 := nI (zlw (a12 >>> (4 &&& 31)) (zKn A))) (a16 := (12 : Int32) * nI (zlw (a12 >>> (4 &&& 31)) (zKn A))) (a17 := 1) h hK4
        exact ⟨M2, B2, e2, s2, by omega, fun _ _ => k2⟩
      · rw [if_neg c]
        obtain ⟨M2, B2, e2, s2, k2⟩ := eL_launch (rec := rec) (k := k) (xs := xs) (L := L) (t := t) (a12 := a12) (a13 := a13) (a15 := nI (zlw (a12 >>> (4 &&& 31)) (zKn A))) (a16 := (12 : Int32) * nI (zlw (a12 >>> (4 &&& 31)) (zKn A))) (a17 := 0) h hK4
        exact ⟨M2, B2, e2, s2, by omega, fun _ _ => k2⟩
    · obtain ⟨M2, B2, e2, s2, k2⟩ := eL_J131 (rec := rec) (k := k) (xs := xs) (L := L) (t := t) (a12 := a12) (a13 := a13) (a14 := a14) h (by omega) hj
      exact ⟨M2, B2, e2, s2, k2, fun q1 q2 => absurd ⟨q1, q2⟩ hc⟩
end ZRUN
theorem eL_cell {M : zM} {xs : Nat → Int32} {L q : Nat} (hq : q < 100) : ∃ v, fL_cell M xs L (nI q) = some (v, M) := by
  unfold fL_cell
  by_cases h : Int32.ofNat L ≤ nI q
  · rw [if_pos h]; exact ⟨_, rfl⟩
  · rw [if_neg h, if_pos (nI_pos' (by omega))]; exact ⟨_, rfl⟩
theorem lL_run {xs : Nat → Int32} {L : Nat} {k : zM → Int32 → Option (Int32 × zM)} : ∀ (c t n : Nat) (M : zM), t + c = 22 → c < n → zIv M t → ∃ M', fL_law_L61 k xs L n M (nI t) = k M' (nI 22) := by
  intro c
  induction c with
  | zero =>
    intro t n M ht hn _
    obtain ⟨n, rfl⟩ : ∃ q, n = q + 1 := ⟨n - 1, by omega⟩
    obtain rfl : t = 22 := by omega
    exact ⟨M, rfl⟩
  | succ c ih =>
    intro t n M ht hn hI
    obtain ⟨n, rfl⟩ : ∃ q, n = q + 1 := ⟨n - 1, by omega⟩
    obtain ⟨A, hT, hlt, hge⟩ := hI
    have h4 := hT.2.1
    obtain ⟨x, ex⟩ := eL_cell (M := M) (xs := xs) (L := L) (q := 2 * t) (by omega)
    obtain ⟨y, ey⟩ := eL_cell (M := M) (xs := xs) (L := L) (q := 2 * t + 1) (by omega)
    have i2 : 2 * nI t = nI (2 * t) := by rw [show (2 : Int32) = nI 2 from rfl, pk_mul]
    unfold fL_law_L61
    rw [if_neg (by rw [show (22 : Int32) = nI 22 from rfl, zle (by omega) (by omega)]; omega), i2, ex, zC_some, nI_1, ey, zC_some]
    have next : ∀ M1 B, zTn M1 B → (t + 1 < 3 → zKn B = t + 1) → (3 ≤ t + 1 → 3 ≤ zKn B) → ∃ M', fL_law_L61 k xs L n M1 (nI (t + 1)) = k M' (nI 22) := fun M1 B b1 b2 b3 => ih (t + 1) n M1 (by omega) (by omega) ⟨B, b1, b2, b3⟩
    by_cases h3 : 3 ≤ t
    · rw [if_pos (by rw [show (3 : Int32) = nI 3 from rfl, zle (by omega) (by omega)]; exact h3), show (10 : Int32) = nI 10 from rfl, eL_low (by omega) (by omega), zC_some]
      have hK3 := hge h3
      obtain ⟨M1, B, e1, s1, k1, _⟩ := eL_J109 (rec := fL_law_L61 k xs L n) (k := k) (xs := xs) (L := L) (t := t) (a12 := x) (a13 := y) (a14 := nI (zlw x 10)) hT (Or.inl (by omega))
      rw [e1]
      exact next M1 B s1 (fun q => by omega) (fun _ => by omega)
    · rw [if_neg (by rw [show (3 : Int32) = nI 3 from rfl, zle (by omega) (by omega)]; exact h3)]
      have hKt := hlt (by omega)
      obtain ⟨M1, B, e1, s1, k1, k2⟩ := eL_J109 (rec := fL_law_L61 k xs L n) (k := k) (xs := xs) (L := L) (t := t) (a12 := x) (a13 := y) (a14 := 0) hT (Or.inr ⟨rfl, by omega⟩)
      have k3 := k2 rfl (by omega)
      rw [e1]
      exact next M1 B s1 (fun q => by omega) (fun _ => by omega)
def zA0 : zA := fun _ _ => 0
theorem zA0_K : zKn zA0 = 0 := rfl
theorem zA0_ok : zok zA0 := ⟨rfl, Nat.zero_le _, fun k hk => absurd hk (Nat.not_lt_zero k)⟩
theorem zA0_c (j : Nat) : zcA zM0 j = zA0 := by
  funext k p
  simp [zcA, zM0, zA0]
theorem zA0_l : zLA 26 zM0 = zA0 := by
  funext k p
  simp [zLA, zM0, zA0]
theorem zrun (xs : Nat → Int32) (L : Nat) : ∃ M9, fL_law_L61 (fun M _ => some (1, M)) xs L 2000 zM0 0 = some (1, M9) := by
  obtain ⟨M', e⟩ := lL_run (xs := xs) (L := L) (k := fun M _ => some (1, M)) 22 0 2000 zM0 (by omega) (by omega) ⟨zA0, ⟨⟨⟨(zA0, [], fun _ => zA0, fun _ => 0, []), ⟨zA0_ok, fun B hB => absurd hB (by simp), Nat.zero_le _, fun i _ => zA0_ok, fun i _ => Or.inl rfl, Nat.zero_le _, fun c hc => absurd hc (by simp)⟩, ⟨zA0_c 0, ⟨0, by omega, rfl, fun n hn => absurd hn (Nat.not_lt_zero n)⟩, rfl, fun i _ => ⟨zA0_c _, rfl⟩, rfl, fun q c hq => absurd hq (by simp)⟩, rfl⟩, zA0_l⟩, Nat.zero_le _, fun k p _ _ => rfl⟩, fun _ => rfl, fun q => by omega⟩
  exact ⟨M', e⟩
