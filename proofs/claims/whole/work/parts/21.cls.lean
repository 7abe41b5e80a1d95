/-! ===== the class's methods of one sky, over its parts ===== -/
def zkite (A : zA) (k : Nat) : Prop :=
  (0 ≤ (A k 0).toInt ∧ (A k 0).toInt ≤ 63) ∧ (0 ≤ (A k 1).toInt ∧ (A k 1).toInt ≤ 63) ∧ (1 ≤ (A k 2).toInt ∧ (A k 2).toInt ≤ 47) ∧ (-3 ≤ (A k 3).toInt ∧ (A k 3).toInt ≤ 3) ∧ (-3 ≤ (A k 4).toInt ∧ (A k 4).toInt ≤ 3) ∧ (0 ≤ (A k 5).toInt ∧ (A k 5).toInt ≤ 5) ∧ (10 ≤ (A k 6).toInt ∧ (A k 6).toInt ≤ 200) ∧ (0 ≤ (A k 8).toInt ∧ (A k 8).toInt ≤ 2) ∧ (0 ≤ (A k 9).toInt ∧ (A k 9).toInt ≤ 63) ∧ (0 ≤ (A k 10).toInt ∧ (A k 10).toInt ≤ 63) ∧ (1 ≤ (A k 11).toInt ∧ (A k 11).toInt ≤ 47) ∧
  (∀ q, q < 32 → 0 ≤ (A k (12 + q)).toInt ∧ (A k (12 + q)).toInt ≤ 1000) ∧ (A k 8 = 0 → ∀ q, q < 32 → (A k (12 + q)).toInt < (A k 6).toInt)
def zKn (A : zA) : Nat := zN (A 6 0)
def zok (A : zA) : Prop := A 6 0 = nI (zKn A) ∧ zKn A ≤ 6 ∧ ∀ k, k < zKn A → zkite A k
def zfly (A : zA) (k : Nat) : Bool := decide (k < zKn A) && decide (A k 8 = 0)
def zhas (A : zA) (v : Int32) : Bool := decide (0 ≤ v.toInt) && decide (v.toInt < (zKn A : Int))
theorem zhas_nI {A : zA} {v : Int32} (h : zhas A v = true) (hA : zKn A ≤ 6) : ∃ k, k < zKn A ∧ k < 6 ∧ v = nI k := by
  simp only [zhas, Bool.and_eq_true, decide_eq_true_eq] at h
  obtain ⟨n, h1, h2, h3⟩ := znat h.1
  exact ⟨n, by omega, by omega, h2⟩
theorem zhas_of {A : zA} {k : Nat} (hk : k < 2 ^ 31) : zhas A (nI k) = decide (k < zKn A) := by
  simp only [zhas, nI_toInt hk]
  simp
theorem Int32_0 : (0 : Int32).toInt = 0 := rfl
theorem zlt_i {x y : Int32} : (x < y) = (x.toInt < y.toInt) := propext Int32.lt_iff_toInt_lt
theorem zle_i {x y : Int32} : (x ≤ y) = (x.toInt ≤ y.toInt) := propext Int32.le_iff_toInt_le
theorem zeq_i {x y : Int32} : (x = y) = (x.toInt = y.toInt) := propext Int32.toInt_inj.symm
theorem e2_has {M : zM} {j : Nat} {v : Int32} (h : zok (zcA M j)) : fX2_has M j v = some (zb (zhas (zcA M j) v), M) := by
  have h0 : M 1 j 0 = nI (zKn (zcA M j)) := h.1
  have hK := h.2.1
  unfold fX2_has zhas zb
  rw [h0]
  generalize zKn (zcA M j) = K at *
  simp only [zlt_i, zle_i, nI_toInt (show K < 2 ^ 31 by omega), Int32_0, show (6 : Int32).toInt = 6 from rfl]
  by_cases c1 : v.toInt < 0
  · simp [c1, show ¬ (0 ≤ v.toInt) by omega]
  · by_cases c2 : (K : Int) ≤ v.toInt
    · simp [c1, c2, show ¬ (v.toInt < (K : Int)) by omega]
    · simp [c1, c2, show ¬ (6 ≤ v.toInt) by omega, show 0 ≤ v.toInt by omega, show v.toInt < (K : Int) by omega]
theorem e2_fly {M : zM} {j k : Nat} (h : zok (zcA M j)) (hk : k < 6) : fX2_isFlying M j (nI k) = some (zb (zfly (zcA M j) k), M) := by
  unfold fX2_isFlying
  rw [e2_has h, zC_some, zhas_of (by omega)]
  by_cases hK : k < zKn (zcA M j)
  · simp only [zfly, hK, decide_true, zb, if_true, zI_eq (zix_nI hk (by omega)), zN_nI (show k < 2 ^ 31 by omega), zr8 hk]
    by_cases hq : zcA M j k 8 = 0 <;> simp [hq]
  · simp [zfly, hK, zb]
theorem e2_flyv {M : zM} {j : Nat} {v : Int32} (h : zok (zcA M j)) : fX2_isFlying M j v = some (zb (zhas (zcA M j) v && decide (zcA M j (zN v) 8 = 0)), M) := by
  cases hv : zhas (zcA M j) v with
  | false => unfold fX2_isFlying; rw [e2_has h, zC_some, hv]; simp [zb]
  | true =>
    obtain ⟨k, h1, h2, rfl⟩ := zhas_nI hv h.2.1
    rw [e2_fly h h2, zN_nI (by omega)]
    simp [zfly, h1]
def zwin (v : Int32) (a b : Int) : Bool := decide (a ≤ v.toInt) && decide (v.toInt ≤ b)
theorem e2_within {M : zM} {v a b : Int32} : fX6_isWithin M v a b = some (zb (zwin v a.toInt b.toInt), M) := by
  unfold fX6_isWithin zb zwin
  simp only [zlt_i]
  by_cases c1 : v.toInt < a.toInt
  · simp [c1, show ¬ a.toInt ≤ v.toInt by omega]
  · by_cases c2 : b.toInt < v.toInt
    · simp [c1, c2, show ¬ v.toInt ≤ b.toInt by omega]
    · simp [c1, c2, show a.toInt ≤ v.toInt by omega, show v.toInt ≤ b.toInt by omega]
theorem e7_within {M : zM} {v a b : Int32} : fX7_within M v a b = some (zb (zwin v a.toInt b.toInt), M) := e2_within
/-! a kite moves -/
def zmv (A : zA) (k : Nat) : zA :=
  let A1 := if zwin (A k 1 + A k 3) 0 63 then zp A k 1 (A k 1 + A k 3) else zp A k 3 (-(A k 3))
  if zwin (A k 2 + A k 4) 1 47 then zp A1 k 2 (A k 2 + A k 4) else zp A1 k 4 (-(A k 4))
theorem e2_move {M : zM} {j k : Nat} (hk : k < 6) : ∃ M', fX2_move M j (nI k) = some ((), M') ∧ zcA M' j = zmv (zcA M j) k ∧ ∀ k' i', ¬ (1 ≤ k' ∧ k' ≤ 14 ∧ i' = j) → M' k' i' = M k' i' := by
  have hx := zix_nI hk (show 6 < 2 ^ 31 by omega)
  have hn := zN_nI (show k < 2 ^ 31 by omega)
  have i0 : (0 : Int32).toInt = 0 := rfl
  have i1 : (1 : Int32).toInt = 1 := rfl
  have i47 : (47 : Int32).toInt = 47 := rfl
  have i63 : (63 : Int32).toInt = 63 := rfl
  unfold fX2_move
  simp only [zI_eq hx, zL_eq, e2_within, zC_some, hn, zb_0, i0, i1, i47, i63, zr1 hk, zr2 hk, zr3 hk, zr4 hk]
  unfold zmv
  cases hb1 : zwin (zcA M j k 1 + zcA M j k 3) 0 63
  · simp only [if_true, zc3 hk, zp_np (show 2 ≠ 3 by decide), zp_np (show 4 ≠ 3 by decide)]
    cases hb2 : zwin (zcA M j k 2 + zcA M j k 4) 1 47
    · simp only [if_true]
      refine ⟨_, rfl, ?_, fun k' i' h => ?_⟩
      · rw [zc4 hk, zc3 hk]; simp
      · rw [zw_ne (by omega), zw_ne (by omega)]
    · simp only [Bool.true_eq_false, if_false]
      refine ⟨_, rfl, ?_, fun k' i' h => ?_⟩
      · rw [zc2 hk, zc3 hk]; simp
      · rw [zw_ne (by omega), zw_ne (by omega)]
  · simp only [Bool.true_eq_false, if_false, zc1 hk, zp_np (show 2 ≠ 1 by decide), zp_np (show 4 ≠ 1 by decide)]
    cases hb2 : zwin (zcA M j k 2 + zcA M j k 4) 1 47
    · simp only [if_true]
      refine ⟨_, rfl, ?_, fun k' i' h => ?_⟩
      · rw [zc4 hk, zc1 hk]; simp
      · rw [zw_ne (by omega), zw_ne (by omega)]
    · simp only [Bool.true_eq_false, if_false]
      refine ⟨_, rfl, ?_, fun k' i' h => ?_⟩
      · rw [zc2 hk, zc1 hk]; simp
      · rw [zw_ne (by omega), zw_ne (by omega)]
