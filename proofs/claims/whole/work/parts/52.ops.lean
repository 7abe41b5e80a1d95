/-! ===== calls: launch, round ===== -/
theorem zf_zp {k a : Nat} : ∀ (c i : Nat) (A : zA) (k' p' : Nat), zf (fun p A => zp A k (a + p) 0) c i A k' p' = if k' = k ∧ a + i ≤ p' ∧ p' < a + i + c then 0 else A k' p' := by
  intro c
  induction c with
  | zero => intro i A k' p'; rw [if_neg (by omega)]; rfl
  | succ c ih =>
    intro i A k' p'
    show zf (fun p A => zp A k (a + p) 0) c (i + 1) (zp A k (a + i) 0) k' p' = _
    rw [ih]
    simp only [zp]
    by_cases h1 : k' = k ∧ a + (i + 1) ≤ p' ∧ p' < a + (i + 1) + c
    · rw [if_pos h1, if_pos (by omega)]
    · rw [if_neg h1]
      by_cases h2 : k' = k ∧ p' = a + i
      · rw [if_pos h2, if_pos (by omega)]
      · rw [if_neg h2, if_neg (by omega)]
theorem zf_zp0 {k : Nat} (c i : Nat) (A : zA) (k' p' : Nat) : zf (fun p A => zp A k p 0) c i A k' p' = if k' = k ∧ i ≤ p' ∧ p' < i + c then 0 else A k' p' := by
  have h := zf_zp (k := k) (a := 0) c i A k' p'
  simp only [Nat.zero_add] at h
  exact h
def zs6 (A : zA) (k : Nat) : zA := zp (zp (zp (zp (zp (zp A k 0 (A k 9)) k 1 (A k 10)) k 2 (A k 11)) k 3 0) k 4 0) k 8 0
def zsd (A : zA) (k : Nat) : zA := zf (fun p A => zp A k (12 + p) 0) 32 0 (zs6 A k)
theorem zs6_nk {A : zA} {k k' p' : Nat} (h : k' ≠ k) : zs6 A k k' p' = A k' p' := by
  unfold zs6; rw [zp_nk h, zp_nk h, zp_nk h, zp_nk h, zp_nk h, zp_nk h]
theorem zsd_nk {A : zA} {k k' p' : Nat} (h : k' ≠ k) : zsd A k k' p' = A k' p' := by
  unfold zsd; rw [zf_zp, if_neg (by omega), zs6_nk h]
theorem l2_send {j k0 : Nat} (hk : k0 < 6) {k : zM → Int32 → Option (Unit × zM)} : ∀ (c i n : Nat) (M : zM), i + c = 32 → c < n →
    ∃ M', fX2_sendUp_L59 k j (nI k0) n M (nI i) = k M' (nI 32) ∧ zcA M' j = zf (fun p A => zp A k0 (12 + p) 0) c i (zcA M j) ∧ zfk j M M' := by
  intro c
  induction c with
  | zero =>
    intro i n M hi hn
    obtain ⟨n, rfl⟩ : ∃ q, n = q + 1 := ⟨n - 1, by omega⟩
    obtain rfl : i = 32 := by omega
    exact ⟨M, rfl, rfl, zfk.refl⟩
  | succ c ih =>
    intro i n M hi hn
    obtain ⟨n, rfl⟩ : ∃ q, n = q + 1 := ⟨n - 1, by omega⟩
    unfold fX2_sendUp_L59
    have hc : ¬ (32 : Int32) ≤ nI i := nI_ge (a := i) (b := 32) (by omega) (by omega)
    rw [if_neg hc, z2ix, zI_eq (zix_nI (show 32 * k0 + i < 192 by omega) (by omega)), zN_nI (show 32 * k0 + i < 2 ^ 31 by omega), zL_eq, zL_eq, nI_1]
    obtain ⟨M', e, c', f⟩ := ih (i + 1) n (zw M 14 j (32 * k0 + i) 0) (by omega) (by omega)
    refine ⟨M', e, ?_, (zfk.w (by omega)).trans f⟩
    rw [c', zc_w hk (by omega)]
    rfl
theorem e2_send {M : zM} {j k : Nat} (hk : k < 6) : ∃ M', fX2_sendUp M j (nI k) = some ((), M') ∧ zcA M' j = zsd (zcA M j) k ∧ zfk j M M' := by
  have hx := zix_nI hk (show 6 < 2 ^ 31 by omega)
  have hn := zN_nI (show k < 2 ^ 31 by omega)
  have key : ∀ M1, zcA M1 j = zs6 (zcA M j) k → zfk j M M1 → ∃ M', fX2_sendUp_L59 (fun M29 v30 => some ((), M29)) j (nI k) 2000 M1 0 = some ((), M') ∧ zcA M' j = zsd (zcA M j) k ∧ zfk j M M' := by
    intro M1 h1 h2
    obtain ⟨M', e, c, f⟩ := l2_send (j := j) hk (k := fun M29 v30 => some ((), M29)) 32 0 2000 M1 (by omega) (by omega)
    rw [h1] at c
    exact ⟨M', e, c, h2.trans f⟩
  unfold fX2_sendUp
  simp only [zI_eq hx, zL_eq, hn]
  refine key _ ?_ ?_
  · rw [zc8 hk, zc4 hk, zc3 hk, zc2 hk, zc1 hk, zc0 hk]
    rw [zw_ne (k := 3) (by omega), zw_ne (k := 2) (k' := 13) (by omega), zw_ne (k := 2) (k' := 12) (by omega), zr9 (M := M) (j := j) hk, zr10 (M := M) (j := j) hk, zr11 (M := M) (j := j) hk]
    rfl
  · exact (((((zfk.w (by omega)).trans (zfk.w (by omega))).trans (zfk.w (by omega))).trans (zfk.w (by omega))).trans (zfk.w (by omega))).trans (zfk.w (by omega))
def zl6 (A : zA) (K : Nat) (v1 v2 v3 v4 v5 : Int32) : zA := zp (zp (zp (zp (zp (zp A K 9 v1) K 10 v2) K 11 v3) K 5 v4) K 6 v5) K 7 0
def zln (A : zA) (K : Nat) (v1 v2 v3 v4 v5 : Int32) : zA := zp (zsd (zl6 A K v1 v2 v3 v4 v5) K) 6 0 (A 6 0 + 1)
theorem zl6_nk {A : zA} {K k p : Nat} {v1 v2 v3 v4 v5 : Int32} (h : k ≠ K) : zl6 A K v1 v2 v3 v4 v5 k p = A k p := by
  unfold zl6; rw [zp_nk h, zp_nk h, zp_nk h, zp_nk h, zp_nk h, zp_nk h]
theorem e2_add {M : zM} {j K : Nat} {A : zA} {v1 v2 v3 v4 v5 : Int32} (hA : zcA M j = A) (h0 : M 1 j 0 = nI K) (hK : K < 6) : ∃ M', fX2_addKite M j v1 v2 v3 v4 v5 = some (nI K, M') ∧ zcA M' j = zln A K v1 v2 v3 v4 v5 ∧ zfk j M M' := by
  have hx := zix_nI hK (show 6 < 2 ^ 31 by omega)
  have hn := zN_nI (show K < 2 ^ 31 by omega)
  have key : ∀ M1, zcA M1 j = zl6 A K v1 v2 v3 v4 v5 → zfk j M M1 → ∃ M', (zC (fX2_sendUp M1 j (nI K)) fun _ M28 => some (nI K, zw M28 1 j 0 ((M28 1 j 0) + 1))) = some (nI K, M') ∧ zcA M' j = zln A K v1 v2 v3 v4 v5 ∧ zfk j M M' := by
    intro M1 h1 h2
    obtain ⟨M2, e, c, f⟩ := e2_send (M := M1) (j := j) hK
    rw [h1] at c
    have e6 : M2 1 j 0 = A 6 0 := by
      rw [zs0 (M := M2) (j := j), c, zsd_nk (by omega), zl6_nk (by omega)]
    rw [e, zC_some, e6]
    refine ⟨_, rfl, ?_, (h2.trans f).trans (zfk.w (by omega))⟩
    rw [zcs0, c]; rfl
  unfold fX2_addKite
  rw [h0]
  simp only [zI_eq hx, zL_eq, hn]
  refine key _ ?_ ?_
  · rw [zc7 hK, zc6 hK, zc5 hK, zc11 hK, zc10 hK, zc9 hK, hA]; rfl
  · exact (((((zfk.w (by omega)).trans (zfk.w (by omega))).trans (zfk.w (by omega))).trans (zfk.w (by omega))).trans (zfk.w (by omega))).trans (zfk.w (by omega))
/-! the reference's launch -/
theorem l7_la {K0 : Nat} (hk : K0 < 6) {a1 a2 a3 a4 a5 : Int32} {k : zM → Int32 → Option (Int32 × zM)} : ∀ (c i n : Nat) (N : zM), i + c = 44 → c < n →
    ∃ N', fX7_launch_L85 k a1 a2 a3 a4 a5 (nI K0) n N (nI i) = k N' (nI 44) ∧ zrA (N' 27 0) = zf (fun p A => zp A K0 (0 + p) 0) c i (zrA (N 27 0)) ∧ zf27 N N' := by
  intro c
  induction c with
  | zero =>
    intro i n N hi hn
    obtain ⟨n, rfl⟩ : ∃ q, n = q + 1 := ⟨n - 1, by omega⟩
    obtain rfl : i = 44 := by omega
    exact ⟨N, rfl, rfl, zf27.refl⟩
  | succ c ih =>
    intro i n N hi hn
    obtain ⟨n, rfl⟩ : ∃ q, n = q + 1 := ⟨n - 1, by omega⟩
    unfold fX7_launch_L85
    have hc : ¬ (44 : Int32) ≤ nI i := nI_ge (a := i) (b := 44) (by omega) (by omega)
    rw [if_neg hc, e7_set hk (show i < 44 by omega), zC_some, zL_eq, nI_1]
    obtain ⟨N', e, c', f⟩ := ih (i + 1) n (zw N 27 0 (44 * K0 + i + 4) 0) (by omega) (by omega)
    refine ⟨N', e, ?_, zf27.w.trans f⟩
    rw [c', zrz hk (by omega)]
    show zf _ c (i + 1) (zp _ K0 i 0) = zf _ c (i + 1) (zp _ K0 (0 + i) 0)
    rw [Nat.zero_add]
def zlD (A : zA) (K : Nat) (v1 v2 v3 v4 v5 : Int32) : zA := zp (zp (zp (zp (zp (zp (zp (zp (zf (fun p A => zp A K (0 + p) 0) 44 0 A) K 0 v1) K 1 v2) K 2 v3) K 5 v4) K 6 v5) K 9 v1) K 10 v2) K 11 v3
theorem zlD_nk {A : zA} {K k p : Nat} {v1 v2 v3 v4 v5 : Int32} (h : k ≠ K) : zlD A K v1 v2 v3 v4 v5 k p = A k p := by
  unfold zlD; rw [zp_nk h, zp_nk h, zp_nk h, zp_nk h, zp_nk h, zp_nk h, zp_nk h, zp_nk h, zf_zp, if_neg (by omega)]
theorem zln_row {A : zA} {K p : Nat} {v1 v2 v3 v4 v5 : Int32} (hK : K < 6) : zln A K v1 v2 v3 v4 v5 K p = zsd (zl6 A K v1 v2 v3 v4 v5) K K p := by
  unfold zln; rw [zp_nk (by omega)]
theorem zlD_row {A : zA} {K p : Nat} {v1 v2 v3 v4 v5 : Int32} : zlD A K v1 v2 v3 v4 v5 K p = zsd (zl6 A K v1 v2 v3 v4 v5) K K p := by
  unfold zlD zsd zs6 zl6
  rcases (show p = 0 ∨ p = 1 ∨ p = 2 ∨ p = 3 ∨ p = 4 ∨ p = 5 ∨ p = 6 ∨ p = 7 ∨ p = 8 ∨ p = 9 ∨ p = 10 ∨ p = 11 ∨ (12 ≤ p ∧ p < 44) ∨ 44 ≤ p by omega) with rfl | rfl | rfl | rfl | rfl | rfl | rfl | rfl | rfl | rfl | rfl | rfl | h | h
  · simp [zf_zp, zf_zp0, zp]
  · simp [zf_zp, zf_zp0, zp]
  · simp [zf_zp, zf_zp0, zp]
  · simp [zf_zp, zf_zp0, zp]
  · simp [zf_zp, zf_zp0, zp]
  · simp [zf_zp, zf_zp0, zp]
  · simp [zf_zp, zf_zp0, zp]
  · simp [zf_zp, zf_zp0, zp]
  · simp [zf_zp, zf_zp0, zp]
  · simp [zf_zp, zf_zp0, zp]
  · simp [zf_zp, zf_zp0, zp]
  · simp [zf_zp, zf_zp0, zp]
  · rw [zp_np (by omega), zp_np (by omega), zp_np (by omega), zp_np (by omega), zp_np (by omega), zp_np (by omega), zp_np (by omega), zp_np (by omega), zf_zp, zf_zp, if_pos (by omega), if_pos (by omega)]
  · rw [zp_np (by omega), zp_np (by omega), zp_np (by omega), zp_np (by omega), zp_np (by omega), zp_np (by omega), zp_np (by omega), zp_np (by omega), zf_zp, zf_zp, if_neg (by omega), if_neg (by omega)]
    rw [zp_np (by omega), zp_np (by omega), zp_np (by omega), zp_np (by omega), zp_np (by omega), zp_np (by omega), zp_np (by omega), zp_np (by omega), zp_np (by omega), zp_np (by omega), zp_np (by omega), zp_np (by omega)]
theorem zln_eq {A : zA} {K : Nat} {v1 v2 v3 v4 v5 : Int32} (hK : K < 6) : zp (zlD A K v1 v2 v3 v4 v5) 6 0 (zlD A K v1 v2 v3 v4 v5 6 0 + 1) = zln A K v1 v2 v3 v4 v5 := by
  funext k p
  by_cases hk : k = K
  · subst hk
    rw [zln_row hK, zp_nk (by omega), zlD_row]
  · unfold zln
    rw [zlD_nk (k := 6) (by omega)]
    by_cases h6 : k = 6 ∧ p = 0
    · obtain ⟨rfl, rfl⟩ := h6
      rw [zp_at, zp_at]
    · rw [zp_ne h6, zp_ne h6, zlD_nk hk, zsd_nk hk, zl6_nk hk]
theorem zsd_9 {A : zA} {k p : Nat} (h : p = 5 ∨ p = 6 ∨ p = 7 ∨ p = 9 ∨ p = 10 ∨ p = 11) : zsd A k k p = A k p := by
  unfold zsd zs6
  rw [zf_zp, if_neg (by omega), zp_np (by omega), zp_np (by omega), zp_np (by omega), zp_np (by omega), zp_np (by omega), zp_np (by omega)]
theorem zsd_v {A : zA} {k : Nat} : zsd A k k 0 = A k 9 ∧ zsd A k k 1 = A k 10 ∧ zsd A k k 2 = A k 11 ∧ zsd A k k 3 = 0 ∧ zsd A k k 4 = 0 ∧ zsd A k k 8 = 0 ∧ ∀ q, q < 32 → zsd A k k (12 + q) = 0 := by
  unfold zsd zs6
  refine ⟨?_, ?_, ?_, ?_, ?_, ?_, fun q hq => ?_⟩
  · simp [zf_zp, zp]
  · simp [zf_zp, zp]
  · simp [zf_zp, zp]
  · simp [zf_zp, zp]
  · simp [zf_zp, zp]
  · simp [zf_zp, zp]
  · rw [zf_zp, if_pos (by omega)]
theorem zsd_kite {A : zA} {k : Nat} (h5 : 0 ≤ (A k 5).toInt ∧ (A k 5).toInt ≤ 5) (h6 : 10 ≤ (A k 6).toInt ∧ (A k 6).toInt ≤ 200) (h9 : 0 ≤ (A k 9).toInt ∧ (A k 9).toInt ≤ 63) (h10 : 0 ≤ (A k 10).toInt ∧ (A k 10).toInt ≤ 63) (h11 : 1 ≤ (A k 11).toInt ∧ (A k 11).toInt ≤ 47) : zkite (zsd A k) k := by
  obtain ⟨e0, e1, e2, e3, e4, e8, ew⟩ := zsd_v (A := A) (k := k)
  have z0 : (0 : Int32).toInt = 0 := rfl
  refine ⟨by rw [e0]; exact h9, by rw [e1]; exact h10, by rw [e2]; exact h11, by rw [e3, z0]; omega, by rw [e4, z0]; omega, by rw [zsd_9 (by omega)]; exact h5, by rw [zsd_9 (by omega)]; exact h6, by rw [e8, z0]; omega, by rw [zsd_9 (by omega)]; exact h9, by rw [zsd_9 (by omega)]; exact h10, by rw [zsd_9 (by omega)]; exact h11, fun q hq => by rw [ew q hq, z0]; omega, fun _ q hq => by rw [ew q hq, zsd_9 (by omega), z0]; omega⟩
theorem zln_ok {A : zA} {K : Nat} {v1 v2 v3 v4 v5 : Int32} (h : zok A) (e : zKn A = K) (hK : K < 6) (w1 : 0 ≤ v1.toInt ∧ v1.toInt ≤ 63) (w2 : 0 ≤ v2.toInt ∧ v2.toInt ≤ 63) (w3 : 1 ≤ v3.toInt ∧ v3.toInt ≤ 47) (w4 : 0 ≤ v4.toInt ∧ v4.toInt ≤ 5) (w5 : 10 ≤ v5.toInt ∧ v5.toInt ≤ 200) : zok (zln A K v1 v2 v3 v4 v5) := by
  have e6 : zln A K v1 v2 v3 v4 v5 6 0 = nI (K + 1) := by
    unfold zln; rw [zp_at, h.1, e, nI_1]
  have eK : zKn (zln A K v1 v2 v3 v4 v5) = K + 1 := by
    unfold zKn; rw [e6, zN_nI (by omega)]
  refine ⟨by rw [eK]; exact e6, by rw [eK]; omega, fun k hk => ?_⟩
  rw [eK] at hk
  by_cases hc : k = K
  · subst hc
    refine zkite_congr (A := zsd (zl6 A k v1 v2 v3 v4 v5) k) (fun p => zln_row hK) (zsd_kite ?_ ?_ ?_ ?_ ?_)
    · simp only [zl6, zp]; simpa using w4
    · simp only [zl6, zp]; simpa using w5
    · simp only [zl6, zp]; simpa using w1
    · simp only [zl6, zp]; simpa using w2
    · simp only [zl6, zp]; simpa using w3
  · refine zkite_congr (A := A) (fun p => ?_) (h.2.2 k (by omega))
    unfold zln
    rw [zp_nk (by omega), zsd_nk hc, zl6_nk hc]
theorem e2_room {M : zM} {K : Nat} (h : M 1 0 0 = nI K) (hK : K ≤ 6) : fX2_hasRoom M 0 = some (zb (decide (K < 6)), M) := by
  unfold fX2_hasRoom
  rw [h, if_neg (nI_pos (by omega))]
  by_cases c : K < 6
  · rw [if_neg (show ¬ (6 : Int32) ≤ nI K from nI_ge (a := K) (b := 6) c (by omega)), decide_eq_true c]; rfl
  · rw [if_pos (by rw [show (6 : Int32) = nI 6 from rfl, zle (by omega) (by omega)]; omega), decide_eq_false c]; rfl
theorem j_launch {M N : zM} {σ : zSg} {v1 v2 v3 v4 v5 : Int32} (h0 : zOK σ) (h1 : zCR M σ) (h2 : zRR N σ) : zJ (fX6_launch M v1 v2 v3 v4 v5) (fX7_launch N v1 v2 v3 v4 v5) M N := by
  unfold fX6_launch fX7_launch
  rw [e2_within, e7_within, zC_some, zC_some]
  refine zJ.gd h0 h1 h2 fun w1 => ?_
  rw [e2_within, e7_within, zC_some, zC_some]
  refine zJ.gd h0 h1 h2 fun w2 => ?_
  rw [e2_within, e7_within, zC_some, zC_some]
  refine zJ.gd h0 h1 h2 fun w3 => ?_
  rw [e2_within, e7_within, zC_some, zC_some]
  refine zJ.gd h0 h1 h2 fun w4 => ?_
  rw [e2_within, e7_within, zC_some, zC_some]
  refine zJ.gd h0 h1 h2 fun w5 => ?_
  rw [zwin_iff] at w1 w2 w3 w4 w5
  rw [e2_room ((c60 h1).trans h0.1.1) h0.1.2.1, zC_some, zI_eq (by decide), r60 h2.1, h0.1.1]
  obtain ⟨K, hKe⟩ : ∃ K, K = zKn σ.1 := ⟨_, rfl⟩
  have hK6 : K ≤ 6 := by rw [hKe]; exact h0.1.2.1
  rw [← hKe]
  by_cases hK : K = 6
  · rw [hK, if_pos (by decide), if_pos (by decide)]
    exact zJ.ret h0 h1 h2
  have hKl : K < 6 := by omega
  rw [if_neg (by rw [decide_eq_true hKl]; decide), if_neg (by rw [show (6 : Int32) = nI 6 from rfl, zeq (by omega) (by omega)]; exact hK)]
  refine zJ.rec h0 h1 h2 fun M1 N1 g0 g1 g2 => ?_
  obtain ⟨M2, e1, c1, f1⟩ := e2_add (M := M1) (j := 0) (K := K) (A := σ.1) (v1 := v1) (v2 := v2) (v3 := v3) (v4 := v4) (v5 := v5) g1.1 (by rw [hKe]; exact (c60 g1).trans g0.1.1) hKl
  have hN : N1 27 0 (zN 0) = nI K := by rw [hKe]; exact (r60 g2.1).trans g0.1.1
  rw [e1, zC_some, zI_eq (by decide), hN, zL_eq]
  have key2 : ∀ B : zM, zrA (B 27 0) = zlD σ.1 K v1 v2 v3 v4 v5 → zf27 N1 B → zJ (some (nI K, M2)) (some (nI K, zw B 27 0 0 (B 27 0 0 + 1))) M1 N1 := by
    intro B b1 b2
    refine zJ.fin (A := zln σ.1 K v1 v2 v3 v4 v5) g0 g1 g2 (zln_ok h0.1 hKe.symm hKl w1 w2 w3 w4 w5) (f1.gs (by omega)) c1 (b2.trans zf27.w).gn ?_
    rw [zrzs (by omega), rsp b1 (by omega), b1]
    exact zln_eq hKl
  have key : ∀ (kk : zM → Int32 → Option (Int32 × zM)) (o6 : Option (Int32 × zM)), (∀ N2 : zM, zrA (N2 27 0) = zf (fun p A => zp A K (0 + p) 0) 44 0 σ.1 → zf27 N1 N2 → zJ o6 (kk N2 (nI 44)) M1 N1) → zJ o6 (fX7_launch_L85 kk v1 v2 v3 v4 v5 (nI K) 2000 N1 0) M1 N1 := by
    intro kk o6 hk
    obtain ⟨N2, e2, c2, f2⟩ := l7_la (K0 := K) hKl (a1 := v1) (a2 := v2) (a3 := v3) (a4 := v4) (a5 := v5) (k := kk) 44 0 2000 N1 (by omega) (by omega)
    rw [g2.1] at c2
    rw [show (0 : Int32) = nI 0 from rfl, e2]
    exact hk N2 c2 f2
  refine key _ _ fun N2 n1 n2 => ?_
  have z0 : zN 0 = 0 := rfl
  simp only [e7_s0 hKl, e7_s1 hKl, e7_s2 hKl, e7_s5 hKl, e7_s6 hKl, e7_s9 hKl, e7_s10 hKl, e7_s11 hKl, zC_some, zI_eq (show zix 0 268 = true by decide), zL_eq, z0]
  refine key2 _ ?_ ?_
  · rw [zrz (p := 11) hKl (by omega), zrz (p := 10) hKl (by omega), zrz (p := 9) hKl (by omega), zrz (p := 6) hKl (by omega), zrz (p := 5) hKl (by omega), zrz (p := 2) hKl (by omega), zrz (p := 1) hKl (by omega), zrz (p := 0) hKl (by omega), n1]
    rfl
  · exact (((((((n2.trans zf27.w).trans zf27.w).trans zf27.w).trans zf27.w).trans zf27.w).trans zf27.w).trans zf27.w).trans zf27.w
/-! a new round -/
theorem zsd_Kn {A : zA} {k : Nat} (hk : k < 6) : zKn (zsd A k) = zKn A := by unfold zKn; rw [zsd_nk (by omega)]
theorem zsd_ok {A : zA} {k : Nat} (h : zok A) (hk : k < zKn A) : zok (zsd A k) := by
  have hk6 : k < 6 := by have := h.2.1; omega
  refine zok_row h (fun k' p hne => zsd_nk hne) hk6 fun _ hz => ?_
  obtain ⟨a0, a1, a2, a3, a4, a5, a6, a8, a9, a10, a11, a12, a13⟩ := hz
  exact zsd_kite a5 a6 a9 a10 a11
def zrd (A : zA) : zA := zf (fun k A => zsd A k) (zKn A) 0 A
theorem zrd_ok {A : zA} (h : zok A) : zok (zrd A) ∧ zKn (zrd A) = zKn A :=
  zf_inv (P := fun B => zok B ∧ zKn B = zKn A) (zKn A) 0 A ⟨h, rfl⟩ fun k _ hk s hs => ⟨zsd_ok hs.1 (by rw [hs.2]; omega), by rw [zsd_Kn (by have := h.2.1; omega)]; exact hs.2⟩
theorem l2_begin {j K : Nat} {k : zM → Int32 → Option (Unit × zM)} : ∀ (c i n : Nat) (M : zM), i + c = 6 → c < n → zok (zcA M j) → zKn (zcA M j) = K →
    ∃ M', fX2_beginAnew_L2 k j n M (nI i) = k M' (nI 6) ∧ zcA M' j = zf (fun k A => if k < K then zsd A k else A) c i (zcA M j) ∧ zfk j M M' := by
  intro c
  induction c with
  | zero =>
    intro i n M hi hn h hK
    obtain ⟨n, rfl⟩ : ∃ q, n = q + 1 := ⟨n - 1, by omega⟩
    obtain rfl : i = 6 := by omega
    exact ⟨M, rfl, rfl, zfk.refl⟩
  | succ c ih =>
    intro i n M hi hn h hK
    obtain ⟨n, rfl⟩ : ∃ q, n = q + 1 := ⟨n - 1, by omega⟩
    unfold fX2_beginAnew_L2
    have hc : ¬ (6 : Int32) ≤ nI i := nI_ge (a := i) (b := 6) (by omega) (by omega)
    rw [if_neg hc, e2_has h, zC_some, zhas_of (by omega), hK]
    show ∃ M', _ = k M' (nI 6) ∧ zcA M' j = zf (fun k A => if k < K then zsd A k else A) c (i + 1) (if i < K then zsd (zcA M j) i else zcA M j) ∧ zfk j M M'
    by_cases hi2 : i < K
    · rw [if_neg (by rw [zb_0]; simpa using hi2), if_pos hi2]
      obtain ⟨M1, e1, c1, f1⟩ := e2_send (M := M) (j := j) (k := i) (by omega)
      rw [e1, zC_some, zL_eq, nI_1]
      obtain ⟨M2, e2, c2, f2⟩ := ih (i + 1) n M1 (by omega) (by omega) (by rw [c1]; exact zsd_ok h (by omega)) (by rw [c1, zsd_Kn (by omega)]; exact hK)
      rw [c1] at c2
      exact ⟨M2, e2, c2, f1.trans f2⟩
    · rw [if_pos (by rw [zb_0]; simpa using hi2), if_neg hi2, zL_eq, nI_1]
      exact ih (i + 1) n M (by omega) (by omega) h hK
theorem l7_rw {k0 : Nat} (hk : k0 < 6) {k : zM → Int32 → Option (Int32 × zM)} : ∀ (c i n : Nat) (N : zM), i + c = 32 → c < n →
    ∃ N', fX7_round_L79 k (nI k0) n N (nI i) = k N' (nI 32) ∧ zrA (N' 27 0) = zf (fun p A => zp A k0 (12 + p) 0) c i (zrA (N 27 0)) ∧ zf27 N N' := by
  intro c
  induction c with
  | zero =>
    intro i n N hi hn
    obtain ⟨n, rfl⟩ : ∃ q, n = q + 1 := ⟨n - 1, by omega⟩
    obtain rfl : i = 32 := by omega
    exact ⟨N, rfl, rfl, zf27.refl⟩
  | succ c ih =>
    intro i n N hi hn
    obtain ⟨n, rfl⟩ : ∃ q, n = q + 1 := ⟨n - 1, by omega⟩
    unfold fX7_round_L79
    have hc : ¬ (32 : Int32) ≤ nI i := nI_ge (a := i) (b := 32) (by omega) (by omega)
    rw [if_neg hc, z12, e7_set hk (show 12 + i < 44 by omega), zC_some, zL_eq, nI_1]
    obtain ⟨N', e, c', f⟩ := ih (i + 1) n (zw N 27 0 (44 * k0 + (12 + i) + 4) 0) (by omega) (by omega)
    refine ⟨N', e, ?_, zf27.w.trans f⟩
    rw [c', zrz hk (by omega)]
    rfl
theorem zf_s {α : Type} {f : Nat → α → α} {c i : Nat} {s : α} : zf f (c + 1) i s = zf f c (i + 1) (f i s) := rfl
theorem l7_round {K : Nat} {k : zM → Int32 → Option (Int32 × zM)} : ∀ (c i n : Nat) (N : zM), i + c = K → c < n → zok (zrA (N 27 0)) → zKn (zrA (N 27 0)) = K →
    ∃ N', fX7_round_L6 k n N (nI i) = k N' (nI K) ∧ zrA (N' 27 0) = zf (fun k A => zsd A k) c i (zrA (N 27 0)) ∧ zf27 N N' := by
  intro c
  induction c with
  | zero =>
    intro i n N hi hn h hK
    obtain ⟨n, rfl⟩ : ∃ q, n = q + 1 := ⟨n - 1, by omega⟩
    obtain rfl : i = K := by omega
    refine ⟨N, ?_, rfl, zf27.refl⟩
    unfold fX7_round_L6
    rw [zI_eq (by decide), h.M0, hK, if_pos (Int32.le_refl _)]
  | succ c ih =>
    intro i n N hi hn h hK
    obtain ⟨n, rfl⟩ : ∃ q, n = q + 1 := ⟨n - 1, by omega⟩
    unfold fX7_round_L6
    have hK6 := h.2.1
    have hi6 : i < 6 := by omega
    rw [zI_eq (by decide), h.M0, hK, if_neg (by rw [zle (by omega) (by omega)]; omega)]
    rw [e7_p9 hi6, zC_some, e7_s0 hi6, zC_some, e7_p10 hi6, zC_some, e7_s1 hi6, zC_some, e7_p11 hi6, zC_some, e7_s2 hi6, zC_some, e7_s3 hi6, zC_some, e7_s4 hi6, zC_some, e7_s8 hi6, zC_some]
    have key : ∀ (kk : zM → Int32 → Option (Int32 × zM)) (B : zM), zrA (B 27 0) = zs6 (zrA (N 27 0)) i → zf27 N B → (∀ N2, zrA (N2 27 0) = zsd (zrA (N 27 0)) i → zf27 N N2 → ∃ N', kk N2 (nI 32) = k N' (nI K) ∧ zrA (N' 27 0) = zf (fun k A => zsd A k) (c + 1) i (zrA (N 27 0)) ∧ zf27 N N') → ∃ N', fX7_round_L79 kk (nI i) 2000 B 0 = k N' (nI K) ∧ zrA (N' 27 0) = zf (fun k A => zsd A k) (c + 1) i (zrA (N 27 0)) ∧ zf27 N N' := by
      intro kk B b1 b2 hk
      obtain ⟨N2, e2, c2, f2⟩ := l7_rw hi6 (k := kk) 32 0 2000 B (by omega) (by omega)
      rw [b1] at c2
      rw [show (0 : Int32) = nI 0 from rfl, e2]
      exact hk N2 c2 (b2.trans f2)
    refine key _ _ ?_ ?_ fun N2 n1 n2 => ?_
    · rw [zrz (p := 8) hi6 (by omega), zrz (p := 4) hi6 (by omega), zrz (p := 3) hi6 (by omega), zrz (p := 2) hi6 (by omega), zrz (p := 1) hi6 (by omega), zrz (p := 0) hi6 (by omega), zp_np (k' := i) (p' := 11) (p := 1) (by omega), zp_np (p' := 11) (by omega), zp_np (p' := 10) (by omega)]
      rfl
    · exact (((((zf27.w.trans zf27.w).trans zf27.w).trans zf27.w).trans zf27.w).trans zf27.w)
    · rw [zL_eq, nI_1]
      obtain ⟨N3, e3, c3, f3⟩ := ih (i + 1) n N2 (by omega) (by omega) (by rw [n1]; exact zsd_ok h (by omega)) (by rw [n1, zsd_Kn hi6]; exact hK)
      rw [n1] at c3
      exact ⟨N3, e3, by rw [zf_s]; exact c3, n2.trans f3⟩
theorem zok_61 {A : zA} {v : Int32} (h : zok A) : zok (zp A 6 1 v) := by
  have e : zKn (zp A 6 1 v) = zKn A := by unfold zKn; rw [zp_np (by omega)]
  refine ⟨by rw [e, zp_np (by omega)]; exact h.1, by rw [e]; exact h.2.1, fun k hk => ?_⟩
  rw [e] at hk
  exact zkite_congr (fun p => zp_nk (by have := h.2.1; omega)) (h.2.2 k hk)
theorem j_round {M N : zM} {σ : zSg} (h0 : zOK σ) (h1 : zCR M σ) (h2 : zRR N σ) : zJ (fX6_round M) (fX7_round N) M N := by
  unfold fX6_round fX7_round
  refine zJ.rec h0 h1 h2 fun M1 N1 g0 g1 g2 => ?_
  unfold fX2_beginAnew
  have hK6 := h0.1.2.1
  obtain ⟨M2, e1, c1, f1⟩ := l2_begin (j := 0) (K := zKn σ.1) (k := fun M26 v27 => zL (zw M26 1 0 2 ((M26 1 0 2) + 1)) fun M28 => some ((), M28)) 6 0 2000 M1 (by omega) (by omega) (by rw [g1.1]; exact h0.1) (by rw [g1.1]; rfl)
  obtain ⟨N2, e2, c2, f2⟩ := l7_round (K := zKn σ.1) (k := fun M39 v40 => zI 1 268 <| zI 1 268 <| zL (zw M39 27 0 (zN 1) ((M39 27 0 (zN 1)) + 1)) fun M41 => zI 1 268 <| some (M41 27 0 (zN 1), M41)) (zKn σ.1) 0 2000 N1 (by omega) (by omega) (by rw [g2.1]; exact h0.1) (by rw [g2.1]; rfl)
  have cA : zcA M2 0 = zrd σ.1 := by
    rw [c1, g1.1]
    show zf _ 6 0 σ.1 = zf _ (zKn σ.1) 0 σ.1
    rw [zf_cut hK6 σ.1 (fun k a b s => if_neg (by omega))]
    exact zf_congr _ _ _ (fun k a b s => if_pos (by omega))
  have cB : zrA (N2 27 0) = zrd σ.1 := by rw [c2, g2.1]; rfl
  have z1 : zN 1 = 1 := rfl
  rw [show (0 : Int32) = nI 0 from rfl, e1, e2, zL_eq, zC_some, zI_eq (by decide), zI_eq (by decide), zL_eq, zI_eq (by decide), z1]
  have e61 : M2 1 0 2 = zrd σ.1 6 1 := by rw [zs1 (M := M2) (j := 0), cA]
  have r61 : N2 27 0 1 = zrd σ.1 6 1 := rsp cB (by omega)
  rw [e61, r61]
  have a1 : (zw M2 1 0 2 (zrd σ.1 6 1 + 1)) 1 0 2 = zrd σ.1 6 1 + 1 := by rw [zw_at]; unfold upd; rw [if_pos rfl]
  have a2 : (zw N2 27 0 1 (zrd σ.1 6 1 + 1)) 27 0 1 = zrd σ.1 6 1 + 1 := by rw [zw_at]; unfold upd; rw [if_pos rfl]
  rw [a1, a2]
  refine zJ.fin (A := zp (zrd σ.1) 6 1 (zrd σ.1 6 1 + 1)) g0 g1 g2 (zok_61 (zrd_ok h0.1).1) ((f1.trans (zfk.w (by omega))).gs (by omega)) (by rw [zcs1, cA]) (f2.trans zf27.w).gn (by rw [zrzs (by omega), cB])
