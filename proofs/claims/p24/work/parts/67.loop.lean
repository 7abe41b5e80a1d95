/-! ===== a turn of the law ===== -/
def zTn (M : zM) (A : zA) : Prop := zSt M A ∧ zKn A ≤ 4 ∧ zzr A
/-- what holds ahead of turn t -/
def zIv (M : zM) (t : Nat) : Prop := ∃ A, zTn M A ∧ (t < 3 → zKn A = t) ∧ (3 ≤ t → 3 ≤ zKn A)
theorem zSt.own {M M' : zM} {A B : zA} (hi : zIA M A) (f : zfm 26 M M') : zIA M' A := (f.lo (by omega)).IA hi
section ZLOOP
variable {rec k : zM → Int32 → Option (Int32 × zM)} {xs : Nat → Int32} {L : Nat}
theorem eL_J911 {M : zM} {A : zA} {t : Nat} {a13 : Int32} (h : zTn M A) (h0 : 0 < zKn A) : ∃ M', fL_law_J911 rec k xs L M (nI t) a13 = rec M' (nI (t + 1)) ∧ zTn M' A := by
  obtain ⟨hs, h4, hz⟩ := h
  obtain ⟨M1, e1, s1, -⟩ := eL_same hs h4
  unfold fL_law_J911
  rw [e1, zC_some, if_neg (by decide), zI_eq (by decide), s1.n, if_neg (by rw [show (0 : Int32) = nI 0 from rfl, zle (by omega) (by omega)]; omega), show (4 : Int32) = nI 4 from rfl, eL_low (by omega) (by omega), zC_some]
  have j : ∀ M, zSt M A → ∃ M', fL_law_J971 rec k xs L M (nI t) = rec M' (nI (t + 1)) ∧ zTn M' A := fun M s => by
    unfold fL_law_J971
    rw [zL_eq, nI_1]
    exact ⟨M, rfl, s, h4, hz⟩
  by_cases hw : nI (zlw (a13 >>> (12 &&& 31)) 4) = 0
  · rw [if_pos hw]
    obtain ⟨M2, e2, s2⟩ := eL_would (v := a13 >>> (3 &&& 31)) s1 h4 h0
    rw [e2, zC_some, if_neg (by decide)]
    exact j M2 s2
  · rw [if_neg hw]
    exact j M1 s1
theorem eL_pass {M : zM} {A : zA} {t : Nat} {a13 : Int32} (h : zTn M A) (h0 : 0 < zKn A) : ∃ M' B, fL_law_J849 rec k xs L M (nI t) a13 = rec M' (nI (t + 1)) ∧ zTn M' B ∧ zKn B = zKn A := by
  obtain ⟨hs, h4, hz⟩ := h
  have hok := hs.ok
  unfold fL_law_J849
  rw [show (12 : Int32) = nI 12 from rfl, eL_low (by omega) (by omega), zC_some, zL_eq, show (1 : Int32) + nI (zlw a13 12) = nI (1 + zlw a13 12) from nI_add 1 _]
  have hlt := zlw_lt (v := a13) (n := 12) (by omega)
  obtain ⟨T, hT⟩ : ∃ T, T = 1 + zlw a13 12 := ⟨_, rfl⟩
  rw [← hT]
  obtain ⟨M1, e1, c1, f1⟩ := lA_t (T := T) (by omega) (xs := xs) (L := L) (a11 := nI t) (a13 := a13) (k := fun M47 v48 v49 => zC (fX6_pass M47 (nI T)) fun r51 M50 => if r51 = v48 then fL_law_J911 rec k xs L M50 (nI t) a13 else some (0, M50)) T 0 2000 0 A M (by omega) (by omega) hs.2 hok h4
  have e1' : fL_law_L866 (fun M47 v48 v49 => zC (fX6_pass M47 (nI T)) fun r51 M50 => if r51 = v48 then fL_law_J911 rec k xs L M50 (nI t) a13 else some (0, M50)) xs L (nI t) a13 (nI T) 2000 M 0 0 = _ := e1
  rw [e1']
  obtain ⟨M2, e2, i2, f2⟩ := p_pass (T := T) ((f1.lo (by omega)).IA hs.1) (by omega) (by omega)
  have hK := zts_Kn hok T
  have s2 : zSt M2 (zts A T).1 := ⟨i2, by rw [zLA_eq (fun k h1 h2 => f2 k 0 (by omega))]; exact c1⟩
  obtain ⟨M3, e3, s3⟩ := eL_J911 (rec := rec) (k := k) (xs := xs) (L := L) (t := t) (a13 := a13) (M := M2) (A := (zts A T).1) ⟨s2, by rw [hK.2]; exact h4, hz.ts hok T⟩ (by rw [hK.2]; exact h0)
  refine ⟨M3, (zts A T).1, ?_, s3, hK.2⟩
  rw [e2, zC_some]
  rw [if_pos (show (zts A T).2 = (zf zt1 T 0 (A, 0)).2 from rfl)]
  exact e3
theorem eL_round {M : zM} {A : zA} {t : Nat} {a13 a14 : Int32} (h : zTn M A) (h0 : 0 < zKn A) : ∃ M' B, fL_law_J685 rec k xs L M (nI t) a13 a14 = rec M' (nI (t + 1)) ∧ zTn M' B ∧ zKn B = zKn A := by
  have hp := eL_pass (rec := rec) (k := k) (xs := xs) (L := L) (t := t) (a13 := a13) h h0
  obtain ⟨hs, h4, hz⟩ := h
  have hok := hs.ok
  unfold fL_law_J685
  by_cases h6 : a14 = 6
  · rw [if_pos h6, show (2 : Int32) = nI 2 from rfl, eL_low (by omega) (by omega), zC_some]
    by_cases hl : nI (zlw a13 2) = 0
    · rw [if_pos hl]
      have key1 : ∀ (kk : zM → Int32 → Option (Int32 × zM)) (P : Option (Int32 × zM) → Prop), (∀ M1, zLA 26 M1 = zf (fun k A => zs6 A k) (zKn A) 0 (zLA 26 M) → zfb 26 M M1 → P (kk M1 (nI (zKn A)))) → P (fL_law_L704 kk xs L (nI t) a13 2000 M 0) := by
        intro kk P hk
        obtain ⟨M1, e1, c1, f1⟩ := lA_r (K := zKn A) h4 (xs := xs) (L := L) (a11 := nI t) (a13 := a13) (k := kk) (zKn A) 0 2000 M (by omega) (by omega) (by rw [hs.2]; exact hok.1)
        have e1' : fL_law_L704 kk xs L (nI t) a13 2000 M 0 = _ := e1
        rw [e1']
        exact hk M1 c1 f1
      have key2 : ∀ (M1 : zM) (kk : zM → Int32 → Option (Int32 × zM)) (P : Option (Int32 × zM) → Prop), (∀ M2, (∀ s, M2 28 0 s = if 0 ≤ s ∧ s < 64 then 0 else M1 28 0 s) → (∀ s, M2 29 0 s = if 0 ≤ s ∧ s < 64 then 0 else M1 29 0 s) → (∀ kk ii, ¬ (kk = 28 ∧ ii = 0) → ¬ (kk = 29 ∧ ii = 0) → M2 kk ii = M1 kk ii) → P (kk M2 (nI 64))) → P (fL_law_L807 kk xs L (nI t) a13 2000 M1 0) := by
        intro M1 kk P hk
        obtain ⟨M2, e2, g1, g2, f2⟩ := lA_z (xs := xs) (L := L) (a11 := nI t) (a13 := a13) (k := kk) 64 0 2000 M1 (by omega) (by omega)
        have e2' : fL_law_L807 kk xs L (nI t) a13 2000 M1 0 = _ := e2
        rw [e2']
        exact hk M2 g1 g2 f2
      refine key1 _ (fun o => ∃ M' B, o = rec M' (nI (t + 1)) ∧ zTn M' B ∧ zKn B = zKn A) fun M1 c1 f1 => ?_
      refine key2 M1 _ (fun o => ∃ M' B, o = rec M' (nI (t + 1)) ∧ zTn M' B ∧ zKn B = zKn A) fun M2 g1 g2 f2 => ?_
      have c2 : zLA 26 M2 = zrd A := by rw [zW0_of g1 g2 f2, c1, hs.2, zrd_is h4 hz]
      have fm : zfm 26 M M2 := f1.m.trans (fun kk ii a b => f2 kk ii (by omega) (by omega))
      obtain ⟨M3, e3, i3, f3⟩ := p_round ((fm.lo (by omega)).IA hs.1)
      have hKr : zKn (zrd A) = zKn A := (zrd_ok hok).2
      have c3 : zLA 26 M3 = zrd A := by rw [zLA_eq (fun k h1 h2 => f3 k 0 (by omega))]; exact c2
      have r1 : M3 26 0 1 = zrd A 6 1 := by rw [← c3]; exact zls6 (b := 26) (by omega)
      try dsimp only
      rw [e3, zC_some, zI_eq (by decide), zI_eq (by decide), show zN 1 = 1 from rfl, zL_eq, r1, if_pos rfl]
      have c4 : zLA 26 (zw M3 26 0 1 (zrd A 6 1 + 1)) = zp (zrd A) 6 1 (zrd A 6 1 + 1) := by
        rw [show zLA 26 (zw M3 26 0 1 (zrd A 6 1 + 1)) = zp (zLA 26 M3) 6 1 (zrd A 6 1 + 1) from zlcs (b := 26) (by omega), c3]
      have i4 : zIA (zw M3 26 0 1 (zrd A 6 1 + 1)) (zp (zrd A) 6 1 (zrd A 6 1 + 1)) := ((zfb.w (b := 26) (M := M3) (k := 26) (i := 0) (s := 1) (v := zrd A 6 1 + 1) (by omega)).lo (by omega)).IA i3
      have hKB : zKn (zp (zrd A) 6 1 (zrd A 6 1 + 1)) = zKn A := by
        show zN (zp (zrd A) 6 1 (zrd A 6 1 + 1) 6 0) = _; rw [zp_np (by omega)]; exact hKr
      have hzB : zzr (zp (zrd A) 6 1 (zrd A 6 1 + 1)) := hz.of hKB fun k p h1 h2 => by
        rw [zp_nk (by omega), zrd_at, if_neg (by omega)]
      obtain ⟨M5, e5, s5⟩ := eL_J911 (rec := rec) (k := k) (xs := xs) (L := L) (t := t) (a13 := a13) (M := zw M3 26 0 1 (zrd A 6 1 + 1)) ⟨⟨i4, c4⟩, by rw [hKB]; exact h4, hzB⟩ (by rw [hKB]; exact h0)
      exact ⟨M5, _, e5, s5, hKB⟩
    · rw [if_neg hl]; exact hp
  · rw [if_neg h6]; exact hp
/-- a number that low gives, as an integer -/
theorem zlo_i {v : Int32} {n a b : Nat} (h : 0 < n) (hb : a + n ≤ b + 1) (h31 : b < 2 ^ 31) : (a : Int) ≤ (nI (a + zlw v n)).toInt ∧ (nI (a + zlw v n)).toInt ≤ (b : Int) := by
  have := zlw_lt (v := v) h
  rw [nI_toInt (by omega)]; omega
theorem eL_step {M : zM} {A : zA} {t j : Nat} {a13 a14 : Int32} (h : zTn M A) (h0 : 0 < zKn A) (hj : j < zKn A) : ∃ M' B, fL_law_J505 rec k xs L M (nI t) a13 a14 (nI j) (12 * nI j) (zb (zfly A j)) = rec M' (nI (t + 1)) ∧ zTn M' B ∧ zKn B = zKn A := by
  have hr := eL_round (rec := rec) (k := k) (xs := xs) (L := L) (t := t) (a13 := a13) (a14 := a14) h h0
  have h' := h
  obtain ⟨hs, h4, hz⟩ := h
  have hok := hs.ok
  have hj4 : j < 4 := by omega
  unfold fL_law_J505
  by_cases c4 : a14 = 4
  · rw [if_pos c4, show (64 : Int32) = nI 64 from rfl, eL_low (by omega) (by omega), zC_some]
    have hv : 0 ≤ (nI (zlw a13 64)).toInt ∧ (nI (zlw a13 64)).toInt ≤ 63 := by
      have := zlw_lt (v := a13) (n := 64) (by omega)
      rw [nI_toInt (by omega)]; omega
    obtain ⟨M1, e1, i1, f1⟩ := p_step hs.1 hj hv
    have c1 : zLA 26 M1 = A := by rw [zLA_eq (fun k h1 h2 => f1 k 0 (by omega))]; exact hs.2
    have r0 : M1 27 0 (12 * j + 0) = A j 0 := by rw [← c1]; exact zla (b := 26) hj4 (by omega)
    rw [e1, zC_some]
    cases hf : zfly A j with
    | false =>
      rw [hf, if_neg (show ¬ false = true by decide)] at i1
      have i1' : zIA M1 A := i1
      rw [if_neg (show ¬ false = true by decide), if_pos (show zb false = 0 from rfl), if_pos rfl, zx0, zxI hj4 (by omega), zxI hj4 (by omega), zxN hj4 (by omega), zL_eq, r0]
      have c2 : zLA 26 (zw M1 27 0 (12 * j + 0) (A j 0)) = A := by
        rw [show zLA 26 (zw M1 27 0 (12 * j + 0) (A j 0)) = zp (zLA 26 M1) j 0 (A j 0) from zlc (b := 26) hj4 (by omega), c1]
        funext k' p'
        by_cases q : k' = j ∧ p' = 0
        · obtain ⟨rfl, rfl⟩ := q; exact zp_at
        · exact zp_ne q
      have i2 : zIA (zw M1 27 0 (12 * j + 0) (A j 0)) A := ((zfb.w (b := 26) (M := M1) (k := 27) (i := 0) (s := 12 * j + 0) (v := A j 0) (by omega)).lo (by omega)).IA i1'
      obtain ⟨M5, e5, s5⟩ := eL_J911 (rec := rec) (k := k) (xs := xs) (L := L) (t := t) (a13 := a13) (M := zw M1 27 0 (12 * j + 0) (A j 0)) ⟨⟨i2, c2⟩, h4, hz⟩ h0
      exact ⟨M5, A, e5, s5, rfl⟩
    | true =>
      rw [hf, if_pos rfl] at i1
      rw [if_pos (show true = true from rfl), if_neg (show ¬ zb true = 0 by decide), zx0, zxI hj4 (by omega), zxN hj4 (by omega), r0, if_pos rfl, zxI hj4 (by omega), zL_eq]
      have c2 : zLA 26 (zw M1 27 0 (12 * j + 0) (nI (zlw a13 64))) = zp A j 0 (nI (zlw a13 64)) := by
        rw [show zLA 26 (zw M1 27 0 (12 * j + 0) (nI (zlw a13 64))) = zp (zLA 26 M1) j 0 (nI (zlw a13 64)) from zlc (b := 26) hj4 (by omega), c1]
      have i2 : zIA (zw M1 27 0 (12 * j + 0) (nI (zlw a13 64))) (zp A j 0 (nI (zlw a13 64))) := ((zfb.w (b := 26) (M := M1) (k := 27) (i := 0) (s := 12 * j + 0) (v := nI (zlw a13 64)) (by omega)).lo (by omega)).IA i1
      have hKB : zKn (zp A j 0 (nI (zlw a13 64))) = zKn A := by show zN (zp A j 0 _ 6 0) = _; rw [zp_nk (by omega)]; rfl
      obtain ⟨M5, e5, s5⟩ := eL_J911 (rec := rec) (k := k) (xs := xs) (L := L) (t := t) (a13 := a13) (M := zw M1 27 0 (12 * j + 0) (nI (zlw a13 64))) ⟨⟨i2, c2⟩, by rw [hKB]; exact h4, hz.of hKB fun k p h1 h2 => zp_nk (by omega)⟩ (by rw [hKB]; exact h0)
      exact ⟨M5, _, e5, s5, hKB⟩
  · rw [if_neg c4]
    by_cases c5 : a14 = 5
    · rw [if_pos c5, show (3 : Int32) = nI 3 from rfl, eL_low (by omega) (by omega), zC_some]
      by_cases hl : nI (zlw a13 3) = 0
      · rw [if_pos hl, show (0 : Int32) = nI 0 from rfl, lA_w hj4 hs.2 32 0 2000 (nI 0) (by omega) (by omega)]
        obtain ⟨M1, e1, i1, f1⟩ := p_land hs.1 hj
        have c1 : zLA 26 M1 = A := by rw [zLA_eq (fun k h1 h2 => f1 k 0 (by omega))]; exact hs.2
        have r8 : M1 27 0 (12 * j + 8) = A j 8 := by rw [← c1]; exact zla (b := 26) hj4 (by omega)
        rw [e1, zC_some]
        cases hf : zfly A j with
        | false =>
          rw [hf, if_neg (show ¬ false = true by decide)] at i1
          have i1' : zIA M1 A := i1
          rw [if_neg (show ¬ false = true by decide), if_pos (show zb false = nI 0 from rfl), if_pos rfl, zx8, zxI hj4 (by omega), zxI hj4 (by omega), zxN hj4 (by omega), zL_eq, r8]
          have c2 : zLA 26 (zw M1 27 0 (12 * j + 8) (A j 8)) = A := by
            rw [show zLA 26 (zw M1 27 0 (12 * j + 8) (A j 8)) = zp (zLA 26 M1) j 8 (A j 8) from zlc (b := 26) hj4 (by omega), c1]
            funext k' p'
            by_cases q : k' = j ∧ p' = 8
            · obtain ⟨rfl, rfl⟩ := q; exact zp_at
            · exact zp_ne q
          have i2 : zIA (zw M1 27 0 (12 * j + 8) (A j 8)) A := ((zfb.w (b := 26) (M := M1) (k := 27) (i := 0) (s := 12 * j + 8) (v := A j 8) (by omega)).lo (by omega)).IA i1'
          obtain ⟨M5, e5, s5⟩ := eL_J911 (rec := rec) (k := k) (xs := xs) (L := L) (t := t) (a13 := a13) (M := zw M1 27 0 (12 * j + 8) (A j 8)) ⟨⟨i2, c2⟩, h4, hz⟩ h0
          exact ⟨M5, A, e5, s5, rfl⟩
        | true =>
          rw [hf, if_pos rfl] at i1
          rw [if_pos (show true = true from rfl), if_neg (show ¬ zb true = nI 0 by decide), if_pos (show zgw A j = zf (fun p m => if A j (12 + p) ≤ m then m else A j (12 + p)) 32 0 (nI 0) from rfl), zx8, zxI hj4 (by omega), zxN hj4 (by omega), zL_eq]
          have c2 : zLA 26 (zw M1 27 0 (12 * j + 8) 2) = zp A j 8 2 := by
            rw [show zLA 26 (zw M1 27 0 (12 * j + 8) 2) = zp (zLA 26 M1) j 8 2 from zlc (b := 26) hj4 (by omega), c1]
          have i2 : zIA (zw M1 27 0 (12 * j + 8) 2) (zp A j 8 2) := ((zfb.w (b := 26) (M := M1) (k := 27) (i := 0) (s := 12 * j + 8) (v := 2) (by omega)).lo (by omega)).IA i1
          have hKB : zKn (zp A j 8 2) = zKn A := by show zN (zp A j 8 2 6 0) = _; rw [zp_nk (by omega)]; rfl
          obtain ⟨M5, e5, s5⟩ := eL_J911 (rec := rec) (k := k) (xs := xs) (L := L) (t := t) (a13 := a13) (M := zw M1 27 0 (12 * j + 8) 2) ⟨⟨i2, c2⟩, by rw [hKB]; exact h4, hz.of hKB fun k p h1 h2 => zp_nk (by omega)⟩ (by rw [hKB]; exact h0)
          exact ⟨M5, _, e5, s5, hKB⟩
      · rw [if_neg hl]; exact hr
    · rw [if_neg c5]; exact hr
theorem eL_order {M : zM} {A : zA} {t j : Nat} {a13 a14 : Int32} (h : zTn M A) (h0 : 0 < zKn A) (hj : j < zKn A) : ∃ M' B, fL_law_J394 rec k xs L M (nI t) a13 a14 (nI j) (12 * nI j) (zb (zfly A j)) = rec M' (nI (t + 1)) ∧ zTn M' B ∧ zKn B = zKn A := by
  have hst := eL_step (rec := rec) (k := k) (xs := xs) (L := L) (t := t) (a13 := a13) (a14 := a14) h h0 hj
  obtain ⟨hs, h4, hz⟩ := h
  have hok := hs.ok
  have hj4 : j < 4 := by omega
  unfold fL_law_J394
  by_cases c4 : 4 ≤ a14
  · rw [if_pos c4]; exact hst
  · rw [if_neg c4, show (7 : Int32) = nI 7 from rfl, eL_low (by omega) (by omega), zC_some, zL_eq, eL_low (by omega) (by omega), zC_some, zL_eq, show (3 : Int32) = nI 3 from rfl]
    have dd : ∀ v : Int32, -3 ≤ (nI (zlw v 7) - nI 3).toInt ∧ (nI (zlw v 7) - nI 3).toInt ≤ 3 := fun v => by
      have := zlw_lt (v := v) (n := 7) (by omega)
      rw [pk_sub_toInt (by omega) (by omega)]; omega
    have d1 := dd a13
    have d2 := dd (a13 >>> (4 &&& 31))
    generalize nI (zlw a13 7) - nI 3 = dx at d1 ⊢
    generalize nI (zlw (a13 >>> (4 &&& 31)) 7) - nI 3 = dy at d2 ⊢
    obtain ⟨-, -, -, z3, z4, -⟩ := hok.2.2 j hj
    have r3 : M 27 0 (12 * j + 3) = A j 3 := hs.r hj4 (by omega)
    have r4 : M 27 0 (12 * j + 4) = A j 4 := hs.r hj4 (by omega)
    rw [show nI 3 = (3 : Int32) from rfl, zx3, zxI hj4 (by omega), zxN hj4 (by omega), r3, eL_abs, zC_some, zx4, zxI hj4 (by omega), zxN hj4 (by omega), r4, eL_abs, zC_some, zL_eq]
    obtain ⟨M1, e1, i1, f1⟩ := p_order hs.1 hj d1 d2
    have c1 : zLA 26 M1 = A := by rw [zLA_eq (fun k h1 h2 => f1 k 0 (by omega))]; exact hs.2
    rw [e1, zC_some]
    cases hf : zfly A j with
    | false =>
      rw [hf, if_neg (show ¬ false = true by decide)] at i1
      rw [if_neg (show ¬ false = true by decide), if_pos (show zb false = 0 from rfl), if_pos rfl]
      obtain ⟨M5, e5, s5⟩ := eL_J911 (rec := rec) (k := k) (xs := xs) (L := L) (t := t) (a13 := a13) (M := M1) (A := A) ⟨⟨i1, c1⟩, h4, hz⟩ h0
      exact ⟨M5, A, e5, s5, rfl⟩
    | true =>
      rw [hf, if_pos rfl] at i1
      have hv : ztv A j dx dy = 10 * zabs (A j 3 - dx) + zabs (A j 4 - dy) := by
        unfold ztv
        rw [zabs_sym (x := dx) (by omega) (by omega), zabs_sym (x := dy) (by omega) (by omega)]
      rw [if_pos (show true = true from rfl), if_neg (show ¬ zb true = 0 by decide), if_pos hv]
      simp only [zxI hj4 (show 3 < 12 by omega), zxI hj4 (show 4 < 12 by omega), zxN hj4 (show 3 < 12 by omega), zxN hj4 (show 4 < 12 by omega), zx3, zx4, zL_eq]
      have c2 : zLA 26 (zw (zw M1 27 0 (12 * j + 3) dx) 27 0 (12 * j + 4) dy) = ztn3 A j dx dy := by
        rw [show zLA 26 (zw (zw M1 27 0 (12 * j + 3) dx) 27 0 (12 * j + 4) dy) = zp (zLA 26 (zw M1 27 0 (12 * j + 3) dx)) j 4 dy from zlc (b := 26) hj4 (by omega), show zLA 26 (zw M1 27 0 (12 * j + 3) dx) = zp (zLA 26 M1) j 3 dx from zlc (b := 26) hj4 (by omega), c1]
        rfl
      have i2 : zIA (zw (zw M1 27 0 (12 * j + 3) dx) 27 0 (12 * j + 4) dy) (ztn3 A j dx dy) := (((zfb.w (b := 26) (M := M1) (k := 27) (i := 0) (s := 12 * j + 3) (v := dx) (by omega)).trans (zfb.w (b := 26) (k := 27) (i := 0) (s := 12 * j + 4) (v := dy) (by omega))).lo (by omega)).IA i1
      have hKB : zKn (ztn3 A j dx dy) = zKn A := by show zN (ztn3 A j dx dy 6 0) = _; unfold ztn3; rw [zp_nk (by omega), zp_nk (by omega)]; rfl
      obtain ⟨M5, e5, s5⟩ := eL_J911 (rec := rec) (k := k) (xs := xs) (L := L) (t := t) (a13 := a13) (M := zw (zw M1 27 0 (12 * j + 3) dx) 27 0 (12 * j + 4) dy) ⟨⟨i2, c2⟩, by rw [hKB]; exact h4, hz.of hKB fun k p h1 h2 => by unfold ztn3; rw [zp_nk (by omega), zp_nk (by omega)]⟩ (by rw [hKB]; exact h0)
      exact ⟨M5, _, e5, s5, hKB⟩
end ZLOOP
