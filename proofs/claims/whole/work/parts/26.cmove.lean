/-! moving all -/
def zmo : Nat → zA → zA := fun k A => if zfly A k then zmv A k else A
theorem zmv_s {A : zA} {k k' p : Nat} (h : k' ≠ k ∨ (p ≠ 1 ∧ p ≠ 2 ∧ p ≠ 3 ∧ p ≠ 4)) : zmv A k k' p = A k' p := by
  unfold zmv
  repeat' split
  all_goals (rw [zp_ne (by omega), zp_ne (by omega)])
theorem zKn_of {A B : zA} (h : B 6 0 = A 6 0) : zKn B = zKn A := by unfold zKn; rw [h]
theorem zmv_Kn {A : zA} {k : Nat} (hk : k < 6) : zKn (zmv A k) = zKn A := zKn_of (zmv_s (Or.inl (by omega)))
theorem zmv_kite {A : zA} {k : Nat} (h : zkite A k) : zkite (zmv A k) k := by
  have hs : ∀ p, (p ≠ 1 ∧ p ≠ 2 ∧ p ≠ 3 ∧ p ≠ 4) → zmv A k k p = A k p := fun p hp => zmv_s (Or.inr hp)
  obtain ⟨h0, h1, h2, h3, h4, h5, h6, h8, h9, h10, h11, h12, h13⟩ := h
  have n3 : (-(A k 3)).toInt = -(A k 3).toInt := zt_neg rfl (by omega)
  have n4 : (-(A k 4)).toInt = -(A k 4).toInt := zt_neg rfl (by omega)
  have key : (0 ≤ (zmv A k k 1).toInt ∧ (zmv A k k 1).toInt ≤ 63) ∧ (1 ≤ (zmv A k k 2).toInt ∧ (zmv A k k 2).toInt ≤ 47) ∧ (-3 ≤ (zmv A k k 3).toInt ∧ (zmv A k k 3).toInt ≤ 3) ∧ (-3 ≤ (zmv A k k 4).toInt ∧ (zmv A k k 4).toInt ≤ 3) := by
    unfold zmv
    cases w1 : zwin (A k 1 + A k 3) 0 63 <;> cases w2 : zwin (A k 2 + A k 4) 1 47
    all_goals
      simp only [zwin, Bool.and_eq_true, decide_eq_true_eq] at w1 w2
      simp [zp, -Int32.toInt_add, -Int32.toInt_neg]
      omega
  obtain ⟨k1, k2, k3, k4⟩ := key
  refine ⟨?_, k1, k2, k3, k4, ?_, ?_, ?_, ?_, ?_, ?_, ?_, ?_⟩
  · rw [hs 0 (by omega)]; exact h0
  · rw [hs 5 (by omega)]; exact h5
  · rw [hs 6 (by omega)]; exact h6
  · rw [hs 8 (by omega)]; exact h8
  · rw [hs 9 (by omega)]; exact h9
  · rw [hs 10 (by omega)]; exact h10
  · rw [hs 11 (by omega)]; exact h11
  · intro q hq; rw [hs (12 + q) (by omega)]; exact h12 q hq
  · rw [hs 8 (by omega), hs 6 (by omega)]; intro e q hq; rw [hs (12 + q) (by omega)]; exact h13 e q hq
theorem zkite_of {A B : zA} {k : Nat} (h : zkite A k) (he : ∀ p, p < 44 → p ≠ 7 → B k p = A k p) : zkite B k := by
  obtain ⟨h0, h1, h2, h3, h4, h5, h6, h8, h9, h10, h11, h12, h13⟩ := h
  refine ⟨?_, ?_, ?_, ?_, ?_, ?_, ?_, ?_, ?_, ?_, ?_, ?_, ?_⟩
  · rw [he 0 (by omega) (by omega)]; exact h0
  · rw [he 1 (by omega) (by omega)]; exact h1
  · rw [he 2 (by omega) (by omega)]; exact h2
  · rw [he 3 (by omega) (by omega)]; exact h3
  · rw [he 4 (by omega) (by omega)]; exact h4
  · rw [he 5 (by omega) (by omega)]; exact h5
  · rw [he 6 (by omega) (by omega)]; exact h6
  · rw [he 8 (by omega) (by omega)]; exact h8
  · rw [he 9 (by omega) (by omega)]; exact h9
  · rw [he 10 (by omega) (by omega)]; exact h10
  · rw [he 11 (by omega) (by omega)]; exact h11
  · intro q hq; rw [he (12 + q) (by omega) (by omega)]; exact h12 q hq
  · rw [he 8 (by omega) (by omega), he 6 (by omega) (by omega)]; intro e q hq; rw [he (12 + q) (by omega) (by omega)]; exact h13 e q hq
theorem zmv_ok {A : zA} {k : Nat} (h : zok A) (hk : k < zKn A) : zok (zmv A k) := by
  obtain ⟨h0, h1, h2⟩ := h
  have e6 : zmv A k 6 0 = A 6 0 := zmv_s (Or.inl (by omega))
  have eK := zKn_of e6
  refine ⟨by rw [e6, eK]; exact h0, by omega, fun k' hk' => ?_⟩
  by_cases hq : k' = k
  · subst hq; exact zmv_kite (h2 k' hk)
  · exact zkite_of (h2 k' (by omega)) (fun p _ _ => zmv_s (Or.inl hq))
theorem zmo_ok {A : zA} {k : Nat} (h : zok A) : zok (zmo k A) := by
  unfold zmo; split
  · next hf => exact zmv_ok h (zfly_lt hf).1
  · exact h
theorem l4_move {j : Nat} {k : zM → Int32 → Option (Unit × zM)} : ∀ (c i n : Nat) (M : zM), i + c = 6 → c < n → zok (zcA M j) →
    ∃ M', fX4_happenIn_L2 k j n M (nI i) = k M' (nI 6) ∧ zcA M' j = zf zmo c i (zcA M j) ∧ zfk j M M' := by
  intro c
  induction c with
  | zero =>
    intro i n M hi hn _
    obtain ⟨n, rfl⟩ : ∃ q, n = q + 1 := ⟨n - 1, by omega⟩
    obtain rfl : i = 6 := by omega
    exact ⟨M, rfl, rfl, zfk.refl⟩
  | succ c ih =>
    intro i n M hi hn hok
    obtain ⟨n, rfl⟩ : ∃ q, n = q + 1 := ⟨n - 1, by omega⟩
    have hi6 : i < 6 := by omega
    unfold fX4_happenIn_L2
    have hc : ¬ (6 : Int32) ≤ nI i := nI_ge (a := i) (b := 6) (by omega) (by omega)
    simp only [if_neg hc, zL_eq, nI_1]
    rw [e2_fly hok hi6, zC_some]
    simp only [zb_0]
    show ∃ M', _ ∧ zcA M' j = zf zmo c (i + 1) (zmo i (zcA M j)) ∧ _
    cases hf : zfly (zcA M j) i
    · simp only [if_true]
      obtain ⟨M2, e2, c2, f2⟩ := ih (i + 1) n M (by omega) (by omega) hok
      exact ⟨M2, e2, by rw [c2]; unfold zmo; rw [hf]; simp, f2⟩
    · simp only [Bool.true_eq_false, if_false]
      obtain ⟨M1, e1, c1, f1⟩ := e2_move (M := M) (j := j) hi6
      rw [e1, zC_some]
      have a1 : zcA M1 j = zmo i (zcA M j) := by rw [c1]; unfold zmo; rw [hf]; simp
      obtain ⟨M2, e2, c2, f2⟩ := ih (i + 1) n M1 (by omega) (by omega) (by rw [a1]; exact zmo_ok hok)
      exact ⟨M2, e2, by rw [c2, a1], zfk.trans f1 f2⟩
theorem zmos_ok {A : zA} (h : zok A) : zok (zf zmo 6 0 A) := zf_inv 6 0 A h (fun k _ _ s hs => zmo_ok hs)
/-- behind the moves, with the tick counted -/
def ztC (A : zA) : zA := zp (zf zmo 6 0 A) 6 2 (zf zmo 6 0 A 6 2 + 1)
theorem zp6_ok {A : zA} {p : Nat} {v : Int32} (h : zok A) (hp : p ≠ 0) : zok (zp A 6 p v) := by
  obtain ⟨h0, h1, h2⟩ := h
  have e6 : zp A 6 p v 6 0 = A 6 0 := zp_np (Ne.symm hp)
  have eK := zKn_of e6
  exact ⟨by rw [e6, eK]; exact h0, by omega, fun k hk => zkite_of (h2 k (by omega)) (fun p' _ _ => zp_nk (by omega))⟩
theorem ztC_ok {A : zA} (h : zok A) : zok (ztC A) := zp6_ok (zmos_ok h) (by omega)
