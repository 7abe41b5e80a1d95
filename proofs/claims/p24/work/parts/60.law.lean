/-! ===== the law's rows as the parts of a sky: b is 26 (its own) or 31 (the second ones) ===== -/
def zLA (b : Nat) (M : zM) : zA := fun k p => if k < 4 then (if p < 12 then M (b + 1) 0 (12 * k + p) else if p < 44 then (if k < 2 then M (b + 2) 0 (32 * k + (p - 12)) else M (b + 3) 0 (32 * k - 64 + (p - 12))) else 0) else if k = 6 then (if p < 4 then M b 0 p else 0) else 0
theorem zla {b : Nat} {M : zM} {k p : Nat} (hk : k < 4) (hp : p < 12) : M (b + 1) 0 (12 * k + p) = zLA b M k p := by simp [zLA, hk, hp]
theorem zls6 {b : Nat} {M : zM} {p : Nat} (hp : p < 4) : M b 0 p = zLA b M 6 p := by simp [zLA, hp]
theorem zlwa {b : Nat} {M : zM} {k q : Nat} (hk : k < 2) (hq : q < 32) : M (b + 2) 0 (32 * k + q) = zLA b M k (12 + q) := by
  simp only [zLA, if_pos (show k < 4 by omega), if_pos hk]
  rw [if_neg (by omega), if_pos (by omega)]
  congr 1; omega
theorem zlwb {b : Nat} {M : zM} {k q : Nat} (hk : 2 ≤ k) (hk4 : k < 4) (hq : q < 32) : M (b + 3) 0 (32 * k - 64 + q) = zLA b M k (12 + q) := by
  simp only [zLA, if_pos hk4, if_neg (show ¬ k < 2 by omega)]
  rw [if_neg (by omega), if_pos (by omega)]
  congr 1; omega
theorem zLA_eq {b : Nat} {M M' : zM} (h : ∀ k, b ≤ k → k ≤ b + 3 → M' k 0 = M k 0) : zLA b M' = zLA b M := by
  funext k p
  simp only [zLA]
  rw [h b (by omega) (by omega), h (b + 1) (by omega) (by omega), h (b + 2) (by omega) (by omega), h (b + 3) (by omega) (by omega)]
theorem zLA_skip {b : Nat} {M : zM} {k i s : Nat} {v : Int32} (h : ¬ (b ≤ k ∧ k ≤ b + 3 ∧ i = 0)) : zLA b (zw M k i s v) = zLA b M := zLA_eq fun k' h1 h2 => zw_ne (by omega)
theorem zlc {b : Nat} {M : zM} {k p : Nat} {v : Int32} (hk : k < 4) (hp : p < 12) : zLA b (zw M (b + 1) 0 (12 * k + p) v) = zp (zLA b M) k p v := by
  funext k' p'
  simp only [zLA, zp]
  rw [zw_ne (show ¬ (b = b + 1 ∧ 0 = 0) by omega), zw_ne (show ¬ (b + 2 = b + 1 ∧ 0 = 0) by omega), zw_ne (show ¬ (b + 3 = b + 1 ∧ 0 = 0) by omega), zw_at]
  unfold upd
  by_cases h4 : k' < 4
  · rw [if_pos h4, if_pos h4]
    by_cases h12 : p' < 12
    · rw [if_pos h12, if_pos h12]
      by_cases h : k' = k ∧ p' = p
      · rw [if_pos (by omega), if_pos h]
      · rw [if_neg (by omega), if_neg h]
    · rw [if_neg h12, if_neg h12, if_neg (show ¬ (k' = k ∧ p' = p) by omega)]
  · rw [if_neg h4, if_neg h4, if_neg (show ¬ (k' = k ∧ p' = p) by omega)]
theorem zlcs {b : Nat} {M : zM} {p : Nat} {v : Int32} (hp : p < 4) : zLA b (zw M b 0 p v) = zp (zLA b M) 6 p v := by
  funext k' p'
  simp only [zLA, zp]
  rw [zw_ne (show ¬ (b + 1 = b ∧ 0 = 0) by omega), zw_ne (show ¬ (b + 2 = b ∧ 0 = 0) by omega), zw_ne (show ¬ (b + 3 = b ∧ 0 = 0) by omega), zw_at]
  unfold upd
  by_cases h4 : k' < 4
  · rw [if_pos h4, if_pos h4, if_neg (show ¬ (k' = 6 ∧ p' = p) by omega)]
  · rw [if_neg h4, if_neg h4]
    by_cases h6 : k' = 6
    · rw [if_pos h6, if_pos h6]
      by_cases h : p' < 4
      · rw [if_pos h, if_pos h]
        by_cases hq : p' = p
        · rw [if_pos hq, if_pos ⟨h6, hq⟩]
        · rw [if_neg hq, if_neg (by omega)]
      · rw [if_neg h, if_neg h, if_neg (by omega)]
    · rw [if_neg h6, if_neg h6, if_neg (by omega)]
theorem zlca {b : Nat} {M : zM} {k q : Nat} {v : Int32} (hk : k < 2) (hq : q < 32) : zLA b (zw M (b + 2) 0 (32 * k + q) v) = zp (zLA b M) k (12 + q) v := by
  funext k' p'
  simp only [zLA, zp]
  rw [zw_ne (show ¬ (b = b + 2 ∧ 0 = 0) by omega), zw_ne (show ¬ (b + 1 = b + 2 ∧ 0 = 0) by omega), zw_ne (show ¬ (b + 3 = b + 2 ∧ 0 = 0) by omega), zw_at]
  unfold upd
  by_cases h4 : k' < 4
  · rw [if_pos h4, if_pos h4]
    by_cases h12 : p' < 12
    · rw [if_pos h12, if_pos h12, if_neg (show ¬ (k' = k ∧ p' = 12 + q) by omega)]
    · rw [if_neg h12, if_neg h12]
      by_cases h44 : p' < 44
      · rw [if_pos h44, if_pos h44]
        by_cases h2 : k' < 2
        · rw [if_pos h2, if_pos h2]
          by_cases h : k' = k ∧ p' = 12 + q
          · rw [if_pos (by omega), if_pos h]
          · rw [if_neg (by omega), if_neg h]
        · rw [if_neg h2, if_neg h2, if_neg (by omega)]
      · rw [if_neg h44, if_neg h44, if_neg (by omega)]
  · rw [if_neg h4, if_neg h4, if_neg (show ¬ (k' = k ∧ p' = 12 + q) by omega)]
theorem zlcb {b : Nat} {M : zM} {k q : Nat} {v : Int32} (hk : 2 ≤ k) (hk4 : k < 4) (hq : q < 32) : zLA b (zw M (b + 3) 0 (32 * k - 64 + q) v) = zp (zLA b M) k (12 + q) v := by
  funext k' p'
  simp only [zLA, zp]
  rw [zw_ne (show ¬ (b = b + 3 ∧ 0 = 0) by omega), zw_ne (show ¬ (b + 1 = b + 3 ∧ 0 = 0) by omega), zw_ne (show ¬ (b + 2 = b + 3 ∧ 0 = 0) by omega), zw_at]
  unfold upd
  by_cases h4 : k' < 4
  · rw [if_pos h4, if_pos h4]
    by_cases h12 : p' < 12
    · rw [if_pos h12, if_pos h12, if_neg (show ¬ (k' = k ∧ p' = 12 + q) by omega)]
    · rw [if_neg h12, if_neg h12]
      by_cases h44 : p' < 44
      · rw [if_pos h44, if_pos h44]
        by_cases h2 : k' < 2
        · rw [if_pos h2, if_pos h2, if_neg (by omega)]
        · rw [if_neg h2, if_neg h2]
          by_cases h : k' = k ∧ p' = 12 + q
          · rw [if_pos (by omega), if_pos h]
          · rw [if_neg (by omega), if_neg h]
      · rw [if_neg h44, if_neg h44, if_neg (by omega)]
  · rw [if_neg h4, if_neg h4, if_neg (show ¬ (k' = k ∧ p' = 12 + q) by omega)]
/-! indices -/
theorem zi12 {k p : Nat} : 12 * nI k + nI p = nI (12 * k + p) := by rw [show (12 : Int32) = nI 12 from rfl, pk_mul, nI_add]
theorem zi12' {k : Nat} : 12 * nI k = nI (12 * k) := by rw [show (12 : Int32) = nI 12 from rfl, pk_mul]
theorem zi4 {k o : Nat} : 4 * nI k + nI o = nI (4 * k + o) := by rw [show (4 : Int32) = nI 4 from rfl, pk_mul, nI_add]
theorem zi32 {k p : Nat} : 32 * nI k + nI p = nI (32 * k + p) := by rw [show (32 : Int32) = nI 32 from rfl, pk_mul, nI_add]
theorem zi64 {k p : Nat} (hk : 2 ≤ k) : 32 * nI k - 64 + nI p = nI (32 * k - 64 + p) := by
  rw [show (32 : Int32) = nI 32 from rfl, show (64 : Int32) = nI 64 from rfl, pk_mul, pk_sub (by omega), nI_add]
theorem zi_rem {a d : Nat} (ha : a < 2 ^ 31) (h0 : 0 < d) (hd : d < 2 ^ 31) : zir (nI a) (nI d) = nI (a % d) := pk_rem ha h0 hd
/-! the small methods -/
def zlw (v : Int32) (n : Nat) : Nat := (v &&& 2147483647).toInt.toNat % n
theorem zlw_lt {v : Int32} {n : Nat} (h : 0 < n) : zlw v n < n := Nat.mod_lt _ h
theorem eL_low {M : zM} {v : Int32} {n : Nat} (h0 : 0 < n) (hn : n < 2 ^ 31) : fL_low M v (nI n) = some (nI (zlw v n), M) := by
  unfold fL_low zlw
  rw [zV_eq (nI_ne0 (by omega) (by omega))]
  obtain ⟨j, h1, h2⟩ := pk_andE v (m := 2147483647) 31 (by decide)
  rw [h2, zi_rem h1 h0 hn, nI_toInt h1]
  rfl
theorem eL_abs {M : zM} {v : Int32} : fL_abs M v = some (zabs v, M) := by
  unfold fL_abs zabs
  by_cases h : 0 ≤ v
  · rw [if_pos h, if_pos h]
  · rw [if_neg h, if_neg h, Int32.zero_sub]
theorem eL_worn {b : Nat} {M : zM} {k p : Nat} (hk : k < 4) (hp : p < 32) : fL_worn M (nI k) (nI p) (b + 2) (b + 3) = some (zLA b M k (12 + p), M) := by
  unfold fL_worn
  by_cases h2 : 2 ≤ k
  · rw [if_pos (by rw [show (2 : Int32) = nI 2 from rfl, zle (by omega) (by omega)]; exact h2), zi64 h2, zI_eq (zix_nI (by omega) (by omega)), zN_nI (by omega), zlwb (b := b) (M := M) h2 hk hp]
  · rw [if_neg (by rw [show (2 : Int32) = nI 2 from rfl, zle (by omega) (by omega)]; exact h2), zi32, zI_eq (zix_nI (by omega) (by omega)), zN_nI (by omega), zlwa (b := b) (M := M) (k := k) (by omega) hp]
/-- only the rows b to b+3 change -/
def zfb (b : Nat) (M M' : zM) : Prop := ∀ k i, ¬ (b ≤ k ∧ k ≤ b + 3) → M' k i = M k i
theorem zfb.refl {b : Nat} {M : zM} : zfb b M M := fun _ _ _ => rfl
theorem zfb.trans {b : Nat} {M M1 M2 : zM} (h : zfb b M M1) (h2 : zfb b M1 M2) : zfb b M M2 := fun k i a => (h2 k i a).trans (h k i a)
theorem zfb.w {b : Nat} {M : zM} {k i s : Nat} {v : Int32} (h : b ≤ k ∧ k ≤ b + 3) : zfb b M (zw M k i s v) := fun k' i' h' => zw_ne (by omega)
theorem eL_wear {b : Nat} {M : zM} {k p : Nat} {v : Int32} (hk : k < 4) (hp : p < 32) : ∃ M', fL_wear M (nI k) (nI p) v (b + 2) (b + 3) = some ((), M') ∧ zLA b M' = zp (zLA b M) k (12 + p) (zLA b M k (12 + p) + v) ∧ zfb b M M' := by
  unfold fL_wear
  by_cases h2 : 2 ≤ k
  · rw [if_pos (by rw [show (2 : Int32) = nI 2 from rfl, zle (by omega) (by omega)]; exact h2), zi64 h2, zI_eq (zix_nI (by omega) (by omega)), zI_eq (zix_nI (by omega) (by omega)), zN_nI (by omega), zL_eq]
    exact ⟨_, rfl, by rw [zlcb h2 hk hp, zlwb (b := b) (M := M) h2 hk hp], zfb.w (by omega)⟩
  · rw [if_neg (by rw [show (2 : Int32) = nI 2 from rfl, zle (by omega) (by omega)]; exact h2), zi32, zI_eq (zix_nI (by omega) (by omega)), zI_eq (zix_nI (by omega) (by omega)), zN_nI (by omega), zL_eq]
    exact ⟨_, rfl, by rw [zlca (by omega) hp, zlwa (b := b) (M := M) (k := k) (by omega) hp], zfb.w (by omega)⟩
theorem eL_sliding {b : Nat} {M : zM} {k o : Nat} (hk : k < 4) (ho : o < 4) : fL_sliding M (nI k) (nI o) (b + 1) = some (zsl (zLA b M) k o, M) := by
  unfold fL_sliding zsl
  rw [show (3 : Int32) = nI 3 from rfl, show (4 : Int32) = nI 4 from rfl, zi12, zi12, zi12, zi12, zI_eq (zix_nI (by omega) (by omega)), zI_eq (zix_nI (by omega) (by omega)), eL_abs, zC_some, zI_eq (zix_nI (by omega) (by omega)), zI_eq (zix_nI (by omega) (by omega)), eL_abs, zC_some, zN_nI (by omega), zN_nI (by omega), zN_nI (by omega), zN_nI (by omega), zla (b := b) (M := M) (p := 3) hk (by omega), zla (b := b) (M := M) (p := 3) ho (by omega), zla (b := b) (M := M) (p := 4) hk (by omega), zla (b := b) (M := M) (p := 4) ho (by omega)]
/-- where k's string is crossed by o's: the place, 64 more if steep; -1 -/
def zpa (A : zA) (k o : Nat) : Int32 := if zcr A k o = true then nI (zpl A k o + if zst A k o = true then 64 else 0) else -1
theorem zfly_is {A : zA} {k : Nat} (hk : k < zKn A) : zfly A k = decide (A k 8 = 0) := by unfold zfly; rw [decide_eq_true hk, Bool.true_and]
theorem eL_placeJ {b : Nat} {M : zM} {ux uy vx vy den t s : Int32} {T S : Int} {D Z : Nat} (hD : den = nI D) (hT : t.toInt = T) (hS : s.toInt = S) (hZ2 : zabs (ux * vx + uy * vy) = nI Z) (b1 : D ≤ 6000) (b4 : Z < 2 ^ 31) :
    fL_place_J135 b M ux uy vx vy den t s = some (if 0 < T ∧ T < D ∧ 0 < S ∧ S < D then nI (32 * T.toNat / D + if Z ≤ D then 64 else 0) else -1, M) := by
  have i0 : (0 : Int32).toInt = 0 := rfl
  have iD : (nI D).toInt = (D : Int) := nI_toInt (by omega)
  unfold fL_place_J135
  rw [hD]
  by_cases h1 : 0 < T
  · rw [if_neg (by rw [zle_i, hT, i0]; omega)]
    by_cases h2 : T < D
    · rw [if_neg (by rw [zle_i, hT, iD]; omega)]
      by_cases h3 : 0 < S
      · rw [if_neg (by rw [zle_i, hS, i0]; omega)]
        by_cases h4 : S < D
        · have ht : t = nI T.toNat := Int32.toInt_inj.mp (by rw [hT, nI_toInt (by omega)]; omega)
          have d1 : 32 * t / nI D = nI (32 * T.toNat / D) := by
            rw [ht, show (32 : Int32) = nI 32 from rfl, pk_mul, pk_div (by omega) (by omega) (by omega)]
          rw [if_pos (by rw [zlt_i, hS, iD]; omega), zV_eq (nI_ne0 (by omega) (by omega)), eL_abs, zC_some, hZ2, if_pos (show 0 < T ∧ T < (D : Int) ∧ 0 < S ∧ S < (D : Int) from ⟨h1, h2, h3, h4⟩), d1]
          by_cases h5 : Z ≤ D
          · rw [if_neg (by rw [zlt (by omega) (by omega)]; omega), if_pos h5, show (64 : Int32) = nI 64 from rfl, nI_add]
          · rw [if_pos (by rw [zlt (by omega) (by omega)]; omega), if_neg h5, show (0 : Int32) = nI 0 from rfl, nI_add]
        · rw [if_neg (by rw [zlt_i, hS, iD]; omega), if_neg (by omega)]
      · rw [if_pos (by rw [zle_i, hS, i0]; omega), if_neg (by omega)]
    · rw [if_pos (by rw [zle_i, hT, iD]; omega), if_neg (by omega)]
  · rw [if_pos (by rw [zle_i, hT, i0]; omega), if_neg (by omega)]
theorem zpg_pos {g y : Int} (hg : 0 < g) (hy : 1 ≤ y) : 0 < g * y ∧ g * y = ((g.natAbs * y.natAbs : Nat) : Int) := by
  refine ⟨Int.mul_pos hg (by omega), ?_⟩
  rw [Int.natCast_mul, show ((g.natAbs : Nat) : Int) = g by omega, show ((y.natAbs : Nat) : Int) = y by omega]
theorem zpg_neg {g y : Int} (hg : g ≤ 0) (hy : 1 ≤ y) : g * y ≤ 0 := by
  have := Int.mul_nonneg (a := -g) (b := y) (by omega) (by omega)
  rw [Int.neg_mul] at this; omega
/-- the law's words for a crossing are the document's -/
theorem zpa_is {A : zA} {k o D : Nat} {g' : Int} (hf : zfly A k = true) (hg : zfly A o = true) (hne : k ≠ o) (hD : (ztn A k o).natAbs = D) (hD0 : 0 < D) (hs : (0 < ztn A k o ∧ g' = zgp A k o) ∨ (ztn A k o < 0 ∧ g' = -zgp A k o)) (yk : 1 ≤ (A k 2).toInt) (yo : 1 ≤ (A o 2).toInt) :
    (if 0 < g' * (A o 2).toInt ∧ g' * (A o 2).toInt < D ∧ 0 < g' * (A k 2).toInt ∧ g' * (A k 2).toInt < D then nI (32 * (g' * (A o 2).toInt).toNat / D + if (zdt A k o).natAbs ≤ D then 64 else 0) else -1) = zpa A k o := by
  have hna : g'.natAbs = (zgp A k o).natAbs := by omega
  have hcr : zcr A k o = (decide (0 < zgp A k o * ztn A k o) && (decide (zga A k o < D) && decide (zga A o k < D))) := by
    unfold zcr; rw [hf, hg, hD]; simp [hne]
  have hga : zga A k o = (zgp A k o).natAbs * (A o 2).toInt.natAbs := rfl
  have hgb : zga A o k = (zgp A k o).natAbs * (A k 2).toInt.natAbs := by unfold zga; rw [zgp_sym (k := k) (o := o), Int.natAbs_neg]
  unfold zpa
  by_cases c : 0 < g'
  · obtain ⟨p1, p2⟩ := zpg_pos c yo
    obtain ⟨p3, p4⟩ := zpg_pos c yk
    rw [hna, ← hga] at p2
    rw [hna, ← hgb] at p4
    have c1 : 0 < zgp A k o * ztn A k o := by
      rcases hs with ⟨s1, s2⟩ | ⟨s1, s2⟩
      · exact Int.mul_pos (by omega) s1
      · have := Int.mul_pos (show 0 < -zgp A k o by omega) (show 0 < -ztn A k o by omega)
        rw [Int.neg_mul_neg] at this; exact this
    rw [p2, p4, hcr, decide_eq_true c1]
    by_cases c2 : zga A k o < D
    · by_cases c3 : zga A o k < D
      · rw [if_pos (by omega), decide_eq_true c2, decide_eq_true c3, if_pos (show (true && (true && true)) = true from rfl), Int.toNat_natCast]
        congr 1
        unfold zpl zst
        rw [hD]
        by_cases c4 : (zdt A k o).natAbs ≤ D
        · rw [if_pos c4, decide_eq_true c4, if_pos rfl]
        · rw [if_neg c4, decide_eq_false c4, if_neg (by decide)]
      · rw [if_neg (by omega), decide_eq_false c3, Bool.and_false, Bool.and_false, if_neg (by decide)]
    · rw [if_neg (by omega), decide_eq_false c2, Bool.false_and, Bool.and_false, if_neg (by decide)]
  · have p1 := zpg_neg (show g' ≤ 0 by omega) yo
    have c1 : ¬ 0 < zgp A k o * ztn A k o := by
      rcases hs with ⟨s1, s2⟩ | ⟨s1, s2⟩
      · have := Int.mul_nonneg (a := -zgp A k o) (b := ztn A k o) (by omega) (by omega)
        rw [Int.neg_mul] at this; omega
      · have := Int.mul_nonneg (a := zgp A k o) (b := -ztn A k o) (by omega) (by omega)
        rw [Int.mul_neg] at this; omega
    rw [if_neg (by omega), hcr, decide_eq_false c1, Bool.false_and, if_neg (by decide)]
theorem zpa_no {A : zA} {k o : Nat} (h : zfly A k = false ∨ zfly A o = false) : zpa A k o = -1 := by
  unfold zpa
  rw [if_neg]
  unfold zcr
  rcases h with h | h
  · rw [h]; simp
  · rw [h]; simp
theorem zx0 {k : Nat} : 12 * nI k = nI (12 * k + 0) := zi12'
theorem zx1 {k : Nat} : 12 * nI k + 1 = nI (12 * k + 1) := zi12 (p := 1)
theorem zx2 {k : Nat} : 12 * nI k + 2 = nI (12 * k + 2) := zi12 (p := 2)
theorem zx3 {k : Nat} : 12 * nI k + 3 = nI (12 * k + 3) := zi12 (p := 3)
theorem zx4 {k : Nat} : 12 * nI k + 4 = nI (12 * k + 4) := zi12 (p := 4)
theorem zx5 {k : Nat} : 12 * nI k + 5 = nI (12 * k + 5) := zi12 (p := 5)
theorem zx6 {k : Nat} : 12 * nI k + 6 = nI (12 * k + 6) := zi12 (p := 6)
theorem zx7 {k : Nat} : 12 * nI k + 7 = nI (12 * k + 7) := zi12 (p := 7)
theorem zx8 {k : Nat} : 12 * nI k + 8 = nI (12 * k + 8) := zi12 (p := 8)
theorem zx9 {k : Nat} : 12 * nI k + 9 = nI (12 * k + 9) := zi12 (p := 9)
theorem zx10 {k : Nat} : 12 * nI k + 10 = nI (12 * k + 10) := zi12 (p := 10)
theorem zx11 {k : Nat} : 12 * nI k + 11 = nI (12 * k + 11) := zi12 (p := 11)
theorem zxI {ρ : Type} {k p : Nat} {f : Option ρ} (hk : k < 4) (hp : p < 12) : zI (nI (12 * k + p)) 48 f = f := zI_eq (zix_nI (by omega) (by omega))
theorem zxN {k p : Nat} (hk : k < 4) (hp : p < 12) : zN (nI (12 * k + p)) = 12 * k + p := zN_nI (by omega)
theorem zxJ {ρ : Type} {p : Nat} {f : Option ρ} (hp : p < 4) : zI (nI p) 4 f = f := zI_eq (zix_nI (by omega) (by omega))
theorem eL_place {b : Nat} {M : zM} {A : zA} {k o : Nat} (hA : zLA b M = A) (zk : zkp A k) (zo : zkp A o) (h4 : zKn A ≤ 4) (hk : k < zKn A) (ho : o < zKn A) (hne : k ≠ o) : fL_place M (nI k) (nI o) (b + 1) = some (zpa A k o, M) := by
  have hk4 : k < 4 := by omega
  have ho4 : o < 4 := by omega
  have rk : ∀ p, p < 12 → M (b + 1) 0 (12 * k + p) = A k p := fun p hp => by rw [zla (b := b) (M := M) hk4 hp, hA]
  have ro : ∀ p, p < 12 → M (b + 1) 0 (12 * o + p) = A o p := fun p hp => by rw [zla (b := b) (M := M) ho4 hp, hA]
  have fk := zfly_is hk
  have fo := zfly_is ho
  unfold fL_place
  simp only [zL_eq]
  rw [zx8 (k := k), zxI hk4 (by omega), zxN hk4 (by omega), rk 8 (by omega)]
  by_cases c8 : A k 8 = 0
  · rw [if_pos c8, zx8 (k := o), zxI ho4 (by omega), zxN ho4 (by omega), ro 8 (by omega)]
    by_cases o8 : A o 8 = 0
    · rw [if_pos o8, zx1 (k := k), zx2 (k := k), zx1 (k := o), zx2 (k := o), zx0 (k := k), zx0 (k := o)]
      simp only [zxI hk4 (show 0 < 12 by omega), zxI hk4 (show 1 < 12 by omega), zxI hk4 (show 2 < 12 by omega), zxI ho4 (show 0 < 12 by omega), zxI ho4 (show 1 < 12 by omega), zxI ho4 (show 2 < 12 by omega), zxN hk4 (show 0 < 12 by omega), zxN hk4 (show 1 < 12 by omega), zxN hk4 (show 2 < 12 by omega), zxN ho4 (show 0 < 12 by omega), zxN ho4 (show 1 < 12 by omega), zxN ho4 (show 2 < 12 by omega), rk 0 (by omega), rk 1 (by omega), rk 2 (by omega), ro 0 (by omega), ro 1 (by omega), ro 2 (by omega)]
      obtain ⟨b1, b2, b3, b4, b5⟩ := z_sz zk zo
      obtain ⟨k0, k1, k2⟩ := zk
      obtain ⟨o0, o1, o2⟩ := zo
      have p1 := zm_bound (a := (A k 1).toInt - (A k 0).toInt) (b := (A o 2).toInt) (m := 63) (n := 47) (by omega) (by omega)
      have p2 := zm_bound (a := (A k 2).toInt) (b := (A o 1).toInt - (A o 0).toInt) (m := 47) (n := 63) (by omega) (by omega)
      have p3 := zm_bound (a := (A k 1).toInt - (A k 0).toInt) (b := (A o 1).toInt - (A o 0).toInt) (m := 63) (n := 63) (by omega) (by omega)
      have p4 := zm_bound (a := (A k 2).toInt) (b := (A o 2).toInt) (m := 47) (n := 47) (by omega) (by omega)
      have p6 := zm_bound (a := zgp A k o) (b := (A o 2).toInt) (m := 63) (n := 47) b1 (by omega)
      have p7 := zm_bound (a := zgp A k o) (b := (A k 2).toInt) (m := 63) (n := 47) b1 (by omega)
      have e21 : (A k 1 - A k 0).toInt = (A k 1).toInt - (A k 0).toInt := zt_sub rfl rfl (by omega) (by omega)
      have e23 : (A o 1 - A o 0).toInt = (A o 1).toInt - (A o 0).toInt := zt_sub rfl rfl (by omega) (by omega)
      have e25 : (A o 0 - A k 0).toInt = zgp A k o := zt_sub rfl rfl (by omega) (by omega)
      have e26 : ((A k 1 - A k 0) * A o 2 - A k 2 * (A o 1 - A o 0)).toInt = ztn A k o :=
        zt_sub (zt_mul e21 rfl (by omega) (by omega)) (zt_mul rfl e23 (by omega) (by omega)) (by omega) (by omega)
      have ed : ((A k 1 - A k 0) * (A o 1 - A o 0) + A k 2 * A o 2).toInt = zdt A k o :=
        zt_add (zt_mul e21 e23 (by omega) (by omega)) (zt_mul rfl rfl (by omega) (by omega)) (by omega) (by omega)
      have et : ((A o 0 - A k 0) * A o 2).toInt = zgp A k o * (A o 2).toInt := zt_mul e25 rfl (by omega) (by omega)
      have es : ((A o 0 - A k 0) * A k 2).toInt = zgp A k o * (A k 2).toInt := zt_mul e25 rfl (by omega) (by omega)
      have ad := zabs_nI ed (by omega)
      have i0 : (0 : Int32).toInt = 0 := rfl
      have hf : zfly A k = true := by rw [fk]; exact decide_eq_true c8
      have hg : zfly A o = true := by rw [fo]; exact decide_eq_true o8
      generalize hden : (A k 1 - A k 0) * A o 2 - A k 2 * (A o 1 - A o 0) = den at e26 ⊢
      generalize ht : (A o 0 - A k 0) * A o 2 = t at et ⊢
      generalize hs : (A o 0 - A k 0) * A k 2 = s at es ⊢
      by_cases d0 : ztn A k o = 0
      · have : zpa A k o = -1 := by
          unfold zpa; rw [if_neg]
          unfold zcr; rw [d0, Int.mul_zero]; simp
        rw [if_pos (by rw [zeq_i, e26, d0]; rfl), this]
      · rw [if_neg (by rw [zeq_i, e26, i0]; exact d0)]
        by_cases dp : 0 ≤ ztn A k o
        · rw [if_pos (by rw [zle_i, e26, i0]; exact dp)]
          have hD : den = nI (ztn A k o).natAbs := Int32.toInt_inj.mp (by rw [e26, nI_toInt (by omega)]; omega)
          rw [eL_placeJ hD et es ad (by omega) (by omega)]
          rw [zpa_is hf hg hne rfl (by omega) (Or.inl ⟨by omega, rfl⟩) (by omega) (by omega)]
        · rw [if_neg (by rw [zle_i, e26, i0]; exact dp)]
          have hD : -den = nI (ztn A k o).natAbs := Int32.toInt_inj.mp (by rw [zt_neg e26 (by omega), nI_toInt (by omega)]; omega)
          have et' : (-t).toInt = -zgp A k o * (A o 2).toInt := by rw [zt_neg et (by omega), Int.neg_mul]
          have es' : (-s).toInt = -zgp A k o * (A k 2).toInt := by rw [zt_neg es (by omega), Int.neg_mul]
          rw [eL_placeJ hD et' es' ad (by omega) (by omega)]
          rw [zpa_is hf hg hne rfl (by omega) (Or.inr ⟨by omega, rfl⟩) (by omega) (by omega)]
    · rw [if_neg o8, zpa_no (Or.inr (by rw [fo]; exact decide_eq_false o8))]
  · rw [if_neg c8, zpa_no (Or.inl (by rw [fk]; exact decide_eq_false c8))]
