/-! ===== the acts ===== -/
/-- rows behind the last kite are empty -/
def zzr (A : zA) : Prop := ∀ k p, zKn A ≤ k → k < 6 → A k p = 0
theorem zf_rows {g : Nat → zA → zA} (h1 : ∀ A k k' p, k' ≠ k → g k A k' p = A k' p) (h2 : ∀ A B k p, (∀ p, A k p = B k p) → g k A k p = g k B k p) : ∀ (c i : Nat) (A : zA) (k p : Nat), zf g c i A k p = if i ≤ k ∧ k < i + c then g k A k p else A k p := by
  intro c
  induction c with
  | zero => intro i A k p; rw [if_neg (by omega)]; rfl
  | succ c ih =>
    intro i A k p
    show zf g c (i + 1) (g i A) k p = _
    rw [ih]
    by_cases hk : k = i
    · subst hk; rw [if_neg (by omega), if_pos (by omega)]
    · by_cases hr : i + 1 ≤ k ∧ k < i + 1 + c
      · rw [if_pos hr, if_pos (by omega)]
        exact h2 _ _ k p (fun p => h1 A i k p hk)
      · rw [if_neg hr, if_neg (by omega)]
        exact h1 A i k p hk
theorem zs6_row {A B : zA} {k p : Nat} (h : ∀ p, A k p = B k p) : zs6 A k k p = zs6 B k k p := by
  unfold zs6
  simp only [zp, h]
theorem zsd_row {A : zA} {k p : Nat} : zsd A k k p = if 12 ≤ p ∧ p < 44 then 0 else zs6 A k k p := by
  unfold zsd
  rw [zf_zp]
  by_cases h : 12 ≤ p ∧ p < 44
  · rw [if_pos (by omega), if_pos h]
  · rw [if_neg (by omega), if_neg h]
theorem zrd_at {A : zA} {k p : Nat} : zrd A k p = if k < zKn A then zsd A k k p else A k p := by
  unfold zrd
  rw [zf_rows (g := fun k A => zsd A k) (fun A k k' p h => zsd_nk h) (fun A B k p h => by
    show zsd A k k p = zsd B k k p
    rw [zsd_row, zsd_row, zs6_row h])]
  by_cases h : k < zKn A
  · rw [if_pos (by omega), if_pos h]
  · rw [if_neg (by omega), if_neg h]
def zW0 (A : zA) : zA := fun k p => if k < 4 ∧ 12 ≤ p ∧ p < 44 then 0 else A k p
theorem zrd_is {A : zA} (h4 : zKn A ≤ 4) (hz : zzr A) : zW0 (zf (fun k A => zs6 A k) (zKn A) 0 A) = zrd A := by
  funext k p
  rw [zrd_at]
  unfold zW0
  rw [zf_rows (g := fun k A => zs6 A k) (fun A k k' p h => zs6_nk h) (fun A B k p h => zs6_row h)]
  by_cases hk : k < zKn A
  · rw [if_pos hk, if_pos (show 0 ≤ k ∧ k < 0 + zKn A by omega), zsd_row]
    by_cases hp : 12 ≤ p ∧ p < 44
    · rw [if_pos (by omega), if_pos hp]
    · rw [if_neg (by omega), if_neg hp]
  · rw [if_neg hk, if_neg (show ¬ (0 ≤ k ∧ k < 0 + zKn A) by omega)]
    by_cases hp : k < 4 ∧ 12 ≤ p ∧ p < 44
    · rw [if_pos hp]; exact (hz k p (by omega) (by omega)).symm
    · rw [if_neg hp]
theorem lA_r {K : Nat} (hK4 : K ≤ 4) {xs : Nat → Int32} {L : Nat} {a11 a13 : Int32} {k : zM → Int32 → Option (Int32 × zM)} : ∀ (c i n : Nat) (M : zM), i + c = K → c < n → zLA 26 M 6 0 = nI K →
    ∃ M', fL_law_L704 k xs L a11 a13 n M (nI i) = k M' (nI K) ∧ zLA 26 M' = zf (fun k A => zs6 A k) c i (zLA 26 M) ∧ zfb 26 M M' := by
  intro c
  induction c with
  | zero =>
    intro i n M hi hn h60
    obtain ⟨n, rfl⟩ : ∃ q, n = q + 1 := ⟨n - 1, by omega⟩
    obtain rfl : i = K := by omega
    have kn : M 26 0 (zN 0) = nI i := by show M 26 0 0 = _; rw [zls6 (b := 26) (M := M) (by omega)]; exact h60
    refine ⟨M, ?_, rfl, zfb.refl⟩
    unfold fL_law_L704
    rw [zI_eq (by decide), kn, if_pos (by rw [zle (by omega) (by omega)]; omega)]
  | succ c ih =>
    intro i n M hi hn h60
    obtain ⟨n, rfl⟩ : ∃ q, n = q + 1 := ⟨n - 1, by omega⟩
    have hi4 : i < 4 := by omega
    have kn : M 26 0 (zN 0) = nI K := by show M 26 0 0 = _; rw [zls6 (b := 26) (M := M) (by omega)]; exact h60
    have next : ∀ M1, zLA 26 M1 = zs6 (zLA 26 M) i → zfb 26 M M1 → ∃ M', fL_law_L704 k xs L a11 a13 n M1 (nI (i + 1)) = k M' (nI K) ∧ zLA 26 M' = zf (fun k A => zs6 A k) (c + 1) i (zLA 26 M) ∧ zfb 26 M M' := by
      intro M1 h1 f1
      obtain ⟨M2, e2, c2, f2⟩ := ih (i + 1) n M1 (by omega) (by omega) (by rw [h1, zs6_nk (by omega)]; exact h60)
      refine ⟨M2, e2, ?_, f1.trans f2⟩
      rw [c2, h1]; rfl
    unfold fL_law_L704
    rw [zI_eq (by decide), kn, if_neg (by rw [zle (by omega) (by omega)]; omega)]
    rw [zx9, zx10, zx11, zx1, zx2, zx3, zx4, zx8, zx0]
    simp only [zxI hi4 (show 0 < 12 by omega), zxI hi4 (show 1 < 12 by omega), zxI hi4 (show 2 < 12 by omega), zxI hi4 (show 3 < 12 by omega), zxI hi4 (show 4 < 12 by omega), zxI hi4 (show 8 < 12 by omega), zxI hi4 (show 9 < 12 by omega), zxI hi4 (show 10 < 12 by omega), zxI hi4 (show 11 < 12 by omega), zxN hi4 (show 0 < 12 by omega), zxN hi4 (show 1 < 12 by omega), zxN hi4 (show 2 < 12 by omega), zxN hi4 (show 3 < 12 by omega), zxN hi4 (show 4 < 12 by omega), zxN hi4 (show 8 < 12 by omega), zxN hi4 (show 9 < 12 by omega), zxN hi4 (show 10 < 12 by omega), zxN hi4 (show 11 < 12 by omega), zL_eq, nI_1]
    generalize hM1 : zw M 27 0 (12 * i + 0) (M 27 0 (12 * i + 9)) = M1
    generalize hM2 : zw M1 27 0 (12 * i + 1) (M1 27 0 (12 * i + 10)) = M2
    generalize hM3 : zw M2 27 0 (12 * i + 2) (M2 27 0 (12 * i + 11)) = M3
    have rd : ∀ (M : zM) (p : Nat), p < 12 → M 27 0 (12 * i + p) = zLA 26 M i p := fun M p hp => zla (b := 26) hi4 hp
    have wr : ∀ (M : zM) (p : Nat) (v : Int32), p < 12 → zLA 26 (zw M 27 0 (12 * i + p) v) = zp (zLA 26 M) i p v := fun M p v hp => zlc (b := 26) hi4 hp
    have c1 : zLA 26 M1 = zp (zLA 26 M) i 0 (zLA 26 M i 9) := by rw [← hM1, wr M 0 _ (by omega), rd M 9 (by omega)]
    have c2 : zLA 26 M2 = zp (zp (zLA 26 M) i 0 (zLA 26 M i 9)) i 1 (zLA 26 M i 10) := by rw [← hM2, wr M1 1 _ (by omega), rd M1 10 (by omega), c1, zp_np (p' := 10) (by omega)]
    have c3 : zLA 26 M3 = zp (zp (zp (zLA 26 M) i 0 (zLA 26 M i 9)) i 1 (zLA 26 M i 10)) i 2 (zLA 26 M i 11) := by rw [← hM3, wr M2 2 _ (by omega), rd M2 11 (by omega), c2, zp_np (p' := 11) (by omega), zp_np (p' := 11) (by omega)]
    have w27 : ∀ (M : zM) (s : Nat) (v : Int32), zfb 26 M (zw M 27 0 s v) := fun M s v => zfb.w (by omega)
    refine next _ ?_ ?_
    · rw [wr _ 8 _ (by omega), wr _ 4 _ (by omega), wr _ 3 _ (by omega), c3]; rfl
    · have f1 : zfb 26 M M1 := by rw [← hM1]; exact w27 _ _ _
      have f2 : zfb 26 M1 M2 := by rw [← hM2]; exact w27 _ _ _
      have f3 : zfb 26 M2 M3 := by rw [← hM3]; exact w27 _ _ _
      exact f1.trans (f2.trans (f3.trans ((w27 _ _ _).trans ((w27 _ _ _).trans (w27 _ _ _)))))
theorem lA_z {xs : Nat → Int32} {L : Nat} {a11 a13 : Int32} {k : zM → Int32 → Option (Int32 × zM)} : ∀ (c i n : Nat) (M : zM), i + c = 64 → c < n →
    ∃ M', fL_law_L807 k xs L a11 a13 n M (nI i) = k M' (nI 64) ∧ (∀ s, M' 28 0 s = if i ≤ s ∧ s < 64 then 0 else M 28 0 s) ∧ (∀ s, M' 29 0 s = if i ≤ s ∧ s < 64 then 0 else M 29 0 s) ∧ ∀ kk ii, ¬ (kk = 28 ∧ ii = 0) → ¬ (kk = 29 ∧ ii = 0) → M' kk ii = M kk ii := by
  intro c
  induction c with
  | zero =>
    intro i n M hi hn
    obtain ⟨n, rfl⟩ : ∃ q, n = q + 1 := ⟨n - 1, by omega⟩
    obtain rfl : i = 64 := by omega
    exact ⟨M, rfl, fun s => by rw [if_neg (by omega)], fun s => by rw [if_neg (by omega)], fun _ _ _ _ => rfl⟩
  | succ c ih =>
    intro i n M hi hn
    obtain ⟨n, rfl⟩ : ∃ q, n = q + 1 := ⟨n - 1, by omega⟩
    unfold fL_law_L807
    rw [if_neg (by rw [show (64 : Int32) = nI 64 from rfl, zle (by omega) (by omega)]; omega), zI_eq (zix_nI (by omega) (by omega)), zL_eq, zI_eq (zix_nI (by omega) (by omega)), zL_eq, zL_eq, zN_nI (by omega), nI_1]
    obtain ⟨M', e, g1, g2, f⟩ := ih (i + 1) n (zw (zw M 28 0 i 0) 29 0 i 0) (by omega) (by omega)
    refine ⟨M', e, fun s => ?_, fun s => ?_, fun kk ii h1 h2 => by rw [f kk ii h1 h2, zw_ne (by omega), zw_ne (by omega)]⟩
    · rw [g1 s, zw_ne (by omega), zw_at]; unfold upd
      by_cases h : s = i
      · rw [if_neg (by omega), if_pos h, if_pos (by omega)]
      · by_cases h2 : i + 1 ≤ s ∧ s < 64
        · rw [if_pos h2, if_pos (by omega)]
        · rw [if_neg h2, if_neg h, if_neg (by omega)]
    · rw [g2 s, zw_at]; unfold upd
      rw [zw_ne (by omega)]
      by_cases h : s = i
      · rw [if_neg (by omega), if_pos h, if_pos (by omega)]
      · by_cases h2 : i + 1 ≤ s ∧ s < 64
        · rw [if_pos h2, if_pos (by omega)]
        · rw [if_neg h2, if_neg h, if_neg (by omega)]
theorem zW0_of {M M' : zM} (g1 : ∀ s, M' 28 0 s = if 0 ≤ s ∧ s < 64 then 0 else M 28 0 s) (g2 : ∀ s, M' 29 0 s = if 0 ≤ s ∧ s < 64 then 0 else M 29 0 s) (f : ∀ kk ii, ¬ (kk = 28 ∧ ii = 0) → ¬ (kk = 29 ∧ ii = 0) → M' kk ii = M kk ii) : zLA 26 M' = zW0 (zLA 26 M) := by
  funext k p
  unfold zW0
  simp only [zLA]
  rw [f 26 0 (by omega) (by omega), f (26 + 1) 0 (by omega) (by omega)]
  by_cases h4 : k < 4
  · rw [if_pos h4, if_pos h4]
    by_cases h12 : p < 12
    · rw [if_pos h12, if_pos h12, if_neg (by omega)]
    · rw [if_neg h12, if_neg h12]
      by_cases h44 : p < 44
      · rw [if_pos h44, if_pos (show k < 4 ∧ 12 ≤ p ∧ p < 44 by omega)]
        by_cases h2 : k < 2
        · rw [if_pos h2]; show M' 28 0 _ = 0; rw [g1, if_pos (by omega)]
        · rw [if_neg h2]; show M' 29 0 _ = 0; rw [g2, if_pos (by omega)]
      · rw [if_neg h44, if_neg h44, if_neg (by omega)]
  · rw [if_neg h4, if_neg h4, if_neg (show ¬ (k < 4 ∧ 12 ≤ p ∧ p < 44) by omega)]
/-! ticks that pass -/
theorem lA_t {T : Nat} (hT : T ≤ 60) {xs : Nat → Int32} {L : Nat} {a11 a13 : Int32} {k : zM → Int32 → Int32 → Option (Int32 × zM)} : ∀ (c i n : Nat) (m : Int32) (B : zA) (M : zM), i + c = T → c < n → zLA 26 M = B → zok B → zKn B ≤ 4 →
    ∃ M', fL_law_L866 k xs L a11 a13 (nI T) n M m (nI i) = k M' (zf zt1 c i (B, m)).2 (nI T) ∧ zLA 26 M' = (zf zt1 c i (B, m)).1 ∧ zfm 26 M M' := by
  intro c
  induction c with
  | zero =>
    intro i n m B M hi hn hB hok h4
    obtain ⟨n, rfl⟩ : ∃ q, n = q + 1 := ⟨n - 1, by omega⟩
    obtain rfl : i = T := by omega
    refine ⟨M, ?_, hB, zfm.refl⟩
    unfold fL_law_L866
    rw [if_pos (by rw [zle (by omega) (by omega)]; omega)]
    rfl
  | succ c ih =>
    intro i n m B M hi hn hB hok h4
    obtain ⟨n, rfl⟩ : ∃ q, n = q + 1 := ⟨n - 1, by omega⟩
    obtain ⟨M1, e1, c1, _, f1⟩ := eL_tick (b := 26) (Or.inl rfl) hB hok h4
    have e1' : fL_tick M 26 27 28 29 30 = some (zwt B, M1) := e1
    unfold fL_law_L866
    rw [if_neg (by rw [zle (by omega) (by omega)]; omega), e1', zC_some, (zwt_f hok h4).1, zL_eq, zL_eq, nI_1]
    obtain ⟨M2, e2, c2, f2⟩ := ih (i + 1) n (m ||| zcm B) (zTk B) M1 (by omega) (by omega) c1 (zTk_ok hok) (by rw [zTk_Kn hok]; exact h4)
    exact ⟨M2, e2, c2, f1.trans f2⟩
/-- the greatest wear -/
theorem lA_w {A : zA} {k0 : Nat} (hk : k0 < 4) {M : zM} (hA : zLA 26 M = A) {xs : Nat → Int32} {L : Nat} {a11 a13 a16 a17 : Int32} {k : zM → Int32 → Int32 → Option (Int32 × zM)} : ∀ (c p n : Nat) (m : Int32), p + c = 32 → c < n →
    fL_law_L589 k xs L a11 a13 (nI k0) a16 a17 n M m (nI p) = k M (zf (fun p m => if A k0 (12 + p) ≤ m then m else A k0 (12 + p)) c p m) (nI 32) := by
  intro c
  induction c with
  | zero =>
    intro p n m hp hn
    obtain ⟨n, rfl⟩ : ∃ q, n = q + 1 := ⟨n - 1, by omega⟩
    obtain rfl : p = 32 := by omega
    rfl
  | succ c ih =>
    intro p n m hp hn
    obtain ⟨n, rfl⟩ : ∃ q, n = q + 1 := ⟨n - 1, by omega⟩
    have wo := eL_worn (b := 26) (M := M) hk (show p < 32 by omega)
    rw [hA] at wo
    have wo' : fL_worn M (nI k0) (nI p) 28 29 = some (A k0 (12 + p), M) := wo
    unfold fL_law_L589
    rw [if_neg (by rw [show (32 : Int32) = nI 32 from rfl, zle (by omega) (by omega)]; omega), wo', zC_some]
    show _ = k M (zf _ c (p + 1) (if A k0 (12 + p) ≤ m then m else A k0 (12 + p))) (nI 32)
    by_cases h : A k0 (12 + p) ≤ m
    · rw [if_pos h, if_pos h, zL_eq, nI_1]; exact ih (p + 1) n m (by omega) (by omega)
    · rw [if_neg h, if_neg h, wo', zC_some, zL_eq, nI_1]; exact ih (p + 1) n _ (by omega) (by omega)
/-! a kite's row is emptied -/
theorem lA_0 {K : Nat} (hK : K < 4) {xs : Nat → Int32} {L : Nat} {a11 a12 a13 : Int32} {k : zM → Int32 → Option (Int32 × zM)} : ∀ (c p n : Nat) (M : zM), p + c = 12 → c < n →
    ∃ M', fL_law_L184 k xs L a11 a12 a13 (12 * nI K) n M (nI p) = k M' (nI 12) ∧ zLA 26 M' = zf (fun p A => zp A K p 0) c p (zLA 26 M) ∧ zfb 26 M M' := by
  intro c
  induction c with
  | zero =>
    intro p n M hp hn
    obtain ⟨n, rfl⟩ : ∃ q, n = q + 1 := ⟨n - 1, by omega⟩
    obtain rfl : p = 12 := by omega
    exact ⟨M, rfl, rfl, zfb.refl⟩
  | succ c ih =>
    intro p n M hp hn
    obtain ⟨n, rfl⟩ : ∃ q, n = q + 1 := ⟨n - 1, by omega⟩
    unfold fL_law_L184
    rw [if_neg (by rw [show (12 : Int32) = nI 12 from rfl, zle (by omega) (by omega)]; omega), zi12, zxI hK (by omega), zxN hK (by omega), zL_eq, zL_eq, nI_1]
    obtain ⟨M', e, c', f⟩ := ih (p + 1) n (zw M 27 0 (12 * K + p) 0) (by omega) (by omega)
    refine ⟨M', e, ?_, (zfb.w (by omega)).trans f⟩
    rw [c']
    show zf _ c (p + 1) _ = zf _ c (p + 1) (zp (zLA 26 M) K p 0)
    rw [show zLA 26 (zw M 27 0 (12 * K + p) 0) = zp (zLA 26 M) K p 0 from zlc (b := 26) hK (by omega)]
/-! a tick keeps empty rows empty -/
theorem zTk_out {A : zA} (h : zok A) {k p : Nat} (hk : zKn A ≤ k) (hk6 : k < 6) : zTk A k p = A k p := by
  have hC := zvC_ok h
  have hKC := zvC_Kn h.2.1
  have hvC : ∀ p, zvC A k p = A k p := fun p => by
    unfold zvC
    refine zf_inv (P := fun s => s k p = A k p) _ 0 A rfl (fun i _ hi s hs => ?_)
    show zmo i s k p = A k p
    unfold zmo zmv
    split
    · split <;> split <;> (rw [zp_nk (by omega)]; try rw [zp_nk (by omega)]) <;> exact hs
    · exact hs
  have hW : ∀ p, zWC (zvC A) k p = A k p := fun p => by
    unfold zWC
    rw [zad_val, zls_zero, Int32.add_zero]
    · exact hvC p
    · intro q hq
      have := (zcr_6 hC.2.1 ((znt_mem hC.2.1).mp hq)).1
      unfold zct; rw [if_neg]
      rintro ⟨q1, _⟩; omega
  by_cases h8 : p = 8
  · subst h8
    rw [zTk_8 hk6, zcutP_out hC.2.1 (by omega), if_neg (by decide)]
    exact hvC 8
  · by_cases h7 : p = 7
    · subst h7
      unfold zTk zX
      rw [zp_nk (by omega), zcus_s (by omega) (by omega)]
      obtain ⟨g1, g2, g3, g4⟩ := zpt_val (C := zvC A) (W := zWC (zvC A)) (znt (zvC A)) (zWC (zvC A), 0, 0) zo7.refl
      have e : zPA (zvC A) k 7 = _ := g2 k
      rw [e, zls_zero, Int32.add_zero]
      · exact hW 7
      · intro q hq
        have := (zcr_6 hC.2.1 ((znt_mem hC.2.1).mp hq)).2.1
        rw [if_neg]
        intro hh
        rw [Bool.and_eq_true, beq_iff_eq] at hh
        omega
    · rw [zTk_s hk6 h7 h8]; exact hW p
theorem zzr.tk {A : zA} (h : zok A) (hz : zzr A) : zzr (zTk A) := fun k p hk hk6 => by
  rw [zTk_Kn h] at hk
  rw [zTk_out h hk hk6]; exact hz k p hk hk6
theorem zzr.ts {A : zA} (h : zok A) (hz : zzr A) (T : Nat) : zzr (zts A T).1 :=
  (zf_inv (P := fun s : zA × Int32 => zok s.1 ∧ zzr s.1) T 0 (A, 0) ⟨h, hz⟩ (fun k _ _ s hs => ⟨zTk_ok hs.1, hs.2.tk hs.1⟩)).2
theorem zzr.of {A B : zA} (hz : zzr A) (hK : zKn B = zKn A) (h : ∀ k p, zKn A ≤ k → k < 6 → B k p = A k p) : zzr B := fun k p h1 h2 => by
  rw [hK] at h1
  rw [h k p h1 h2]; exact hz k p h1 h2
theorem zln_is {A : zA} (hz : zzr A) {v1 v2 v3 v4 v5 : Int32} (hK : zKn A < 4) : zp (zp (zp (zp (zp (zp (zp (zp (zf (fun p A' => zp A' (zKn A) p 0) 12 0 A) (zKn A) 0 v1) (zKn A) 1 v2) (zKn A) 2 v3) (zKn A) 5 v4) (zKn A) 6 v5) (zKn A) 9 v1) (zKn A) 10 v2) (zKn A) 11 v3 = zlD A (zKn A) v1 v2 v3 v4 v5 := by
  have e : zf (fun p A' => zp A' (zKn A) p 0) 12 0 A = zf (fun p A' => zp A' (zKn A) (0 + p) 0) 44 0 A := by
    funext k p
    rw [zf_zp0, zf_zp]
    by_cases h : k = zKn A
    · by_cases h12 : p < 12
      · rw [if_pos (by omega), if_pos (by omega)]
      · rw [if_neg (by omega)]
        by_cases h44 : p < 44
        · rw [if_pos (by omega)]; exact hz k p (by omega) (by omega)
        · rw [if_neg (by omega)]
    · rw [if_neg (fun q => h q.1), if_neg (fun q => h q.1)]
  unfold zlD
  rw [e]
theorem zzr.ln {A : zA} (hz : zzr A) (h : zok A) {v1 v2 v3 v4 v5 : Int32} (hK : zKn A < 4) : zzr (zln A (zKn A) v1 v2 v3 v4 v5) ∧ zKn (zln A (zKn A) v1 v2 v3 v4 v5) = zKn A + 1 := by
  have e6 : zln A (zKn A) v1 v2 v3 v4 v5 6 0 = nI (zKn A + 1) := by
    unfold zln; rw [zp_at, h.1, nI_1]
  have eK : zKn (zln A (zKn A) v1 v2 v3 v4 v5) = zKn A + 1 := by
    show zN (zln A (zKn A) v1 v2 v3 v4 v5 6 0) = _; rw [e6, zN_nI (by omega)]
  refine ⟨fun k p h1 h2 => ?_, eK⟩
  rw [eK] at h1
  unfold zln
  rw [zp_nk (by omega), zsd_nk (by omega), zl6_nk (by omega)]
  exact hz k p (by omega) h2
