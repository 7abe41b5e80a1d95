/-! a tick keeps what is true of a sky -/
theorem zabs_b {x y : Int32} {m : Int} (hx : -m ≤ x.toInt ∧ x.toInt ≤ m) (hy : -m ≤ y.toInt ∧ y.toInt ≤ m) (hm : m ≤ 1000) : ∃ n : Nat, (n : Int) ≤ 2 * m ∧ zabs (x - y) = nI n := by
  have e : (x - y).toInt = x.toInt - y.toInt := zt_sub rfl rfl (by omega) (by omega)
  exact ⟨(x.toInt - y.toInt).natAbs, by omega, zabs_nI e (by omega)⟩
theorem zrb_b {C : zA} {k o : Nat} (hk : zkite C k) (ho : zkite C o) : ∃ n, n ≤ 130 ∧ zrb C k o = nI n := by
  obtain ⟨-, -, -, k3, k4, -⟩ := hk
  obtain ⟨-, -, -, o3, o4, o5, -⟩ := ho
  obtain ⟨a, ha, ea⟩ := zabs_b (x := C k 3) (y := C o 3) (m := 3) k3 o3 (by omega)
  obtain ⟨b, hb, eb⟩ := zabs_b (x := C k 4) (y := C o 4) (m := 3) k4 o4 (by omega)
  obtain ⟨g, hg, eg, eg'⟩ := znat (x := C o 5) (by omega)
  have es : zsl C k o = nI (1 + a + b) := by
    unfold zsl; rw [ea, eb, show (1 : Int32) = nI 1 from rfl, nI_add, nI_add]
  have hm : g * (1 + a + b) ≤ 5 * 13 := Nat.mul_le_mul (by omega) (by omega)
  unfold zrb
  rw [es, eg, pk_mul]
  cases zst C k o
  · exact ⟨g * (1 + a + b), by omega, by simp⟩
  · refine ⟨2 * (g * (1 + a + b)), by omega, ?_⟩
    simp only [if_true]
    rw [show (2 : Int32) = nI 2 from rfl, pk_mul]
theorem ztt_b {C : zA} (h : zok C) {k o p : Nat} : ∃ n, n ≤ 130 ∧ ztt C (zct C k p) k o = nI n := by
  unfold ztt
  cases hc : zcr C k o
  · exact ⟨0, by omega, rfl⟩
  · have h6 := zcr_6 h.2.1 hc
    simp only [if_true]
    unfold zct
    by_cases hq : (k, o).1 = k ∧ p = 12 + zpl C (k, o).1 (k, o).2
    · rw [if_pos hq]; exact zrb_b (h.2.2 k h6.1) (h.2.2 o h6.2.1)
    · rw [if_neg hq]; exact ⟨0, by omega, rfl⟩
set_option maxHeartbeats 2000000 in
theorem zls_b {C : zA} (h : zok C) {k p : Nat} (hk : k < 6) : ∃ n, n ≤ 780 ∧ zls (zct C k p) (znt C) = nI n := by
  have hz : ∀ k' o, k' ≠ k → ztt C (zct C k p) k' o = 0 := fun k' o hne => by
    unfold ztt zct
    rw [if_neg (show ¬ ((k', o).1 = k ∧ p = 12 + zpl C (k', o).1 (k', o).2) from fun q => hne q.1)]
    split <;> rfl
  obtain ⟨n0, h0, e0⟩ := ztt_b h (k := k) (o := 0) (p := p)
  obtain ⟨n1, h1, e1⟩ := ztt_b h (k := k) (o := 1) (p := p)
  obtain ⟨n2, h2, e2⟩ := ztt_b h (k := k) (o := 2) (p := p)
  obtain ⟨n3, h3, e3⟩ := ztt_b h (k := k) (o := 3) (p := p)
  obtain ⟨n4, h4, e4⟩ := ztt_b h (k := k) (o := 4) (p := p)
  obtain ⟨n5, h5, e5⟩ := ztt_b h (k := k) (o := 5) (p := p)
  refine ⟨n0 + n1 + n2 + n3 + n4 + n5, by omega, ?_⟩
  rw [← zls_rl]
  unfold zrl
  obtain rfl | rfl | rfl | rfl | rfl | rfl : k = 0 ∨ k = 1 ∨ k = 2 ∨ k = 3 ∨ k = 4 ∨ k = 5 := by omega
  all_goals
    simp only [zf, zls_ri, zls, Nat.zero_add, Nat.reduceAdd]
    simp [hz, e0, e1, e2, e3, e4, e5, nI_add]
theorem zcu_8 {P : Nat → Bool} {k : Nat} : ∀ (c i : Nat) (A : zA), i + c ≤ 6 → zf (zcu (zmk P)) c i A k 8 = if decide (i ≤ k) && decide (k < i + c) && P k then 1 else A k 8 := by
  intro c
  induction c with
  | zero =>
    intro i A _
    show A k 8 = _
    rw [if_neg]
    intro h
    simp only [Bool.and_eq_true, decide_eq_true_eq] at h
    omega
  | succ c ih =>
    intro i A hi
    show zf (zcu (zmk P)) c (i + 1) (zcu (zmk P) i A) k 8 = _
    rw [ih (i + 1) _ (by omega)]
    by_cases hk : k = i
    · subst hk
      simp only [show ¬ (k + 1 ≤ k) by omega, decide_false, Bool.false_and, Bool.false_eq_true, if_false]
      unfold zcu; rw [zmk_bq (by omega)]
      cases P k
      · simp
      · simp [zp, show k ≠ 6 by omega]
    · rw [zcu_s (by omega) (by omega)]
      by_cases h1 : i ≤ k
      · simp [h1, show i + 1 ≤ k by omega, show (k < i + 1 + c) = (k < i + (c + 1)) by rw [show i + 1 + c = i + (c + 1) by omega]]
      · simp [h1, show ¬ i + 1 ≤ k by omega]
theorem zTk_Kn {A : zA} (h : zok A) : zKn (zTk A) = zKn A := by
  refine zKn_of ?_
  unfold zTk zX
  rw [zp_np (by omega), zcus_s (by omega) (by omega), zPA_s (by omega), zWC_lo (by omega), zvC_s h.2.1]
theorem zTk_60 {A : zA} (h : zok A) : zTk A 6 0 = A 6 0 := by
  unfold zTk zX
  rw [zp_np (by omega), zcus_s (by omega) (by omega), zPA_s (by omega), zWC_lo (by omega), zvC_s h.2.1]
theorem zTk_s {A : zA} {k p : Nat} (hk : k < 6) (h7 : p ≠ 7) (h8 : p ≠ 8) : zTk A k p = zWC (zvC A) k p := by
  unfold zTk zX
  rw [zp_nk (by omega), zcus_s (by omega) (by omega), zPA_s h7]
theorem zTk_8 {A : zA} {k : Nat} (hk : k < 6) : zTk A k 8 = if zcutP (zvC A) k then 1 else zvC A k 8 := by
  unfold zTk zX
  rw [zp_nk (by omega), zcu_8 6 0 _ (by omega), zPA_s (by omega), zWC_lo (by omega)]
  simp [hk]
theorem zTk_ok {A : zA} (h : zok A) : zok (zTk A) := by
  have hC := zvC_ok h
  have hKC := zvC_Kn h.2.1
  refine ⟨by rw [zTk_60 h, zTk_Kn h]; exact h.1, by rw [zTk_Kn h]; exact h.2.1, fun k hk => ?_⟩
  rw [zTk_Kn h] at hk
  have hk6 : k < 6 := by have := h.2.1; omega
  have hkite := hC.2.2 k (by omega)
  have lo : ∀ p, p < 12 → p ≠ 7 → p ≠ 8 → zTk A k p = zvC A k p := fun p h1 h2 h3 => by rw [zTk_s hk6 h2 h3, zWC_lo h1]
  obtain ⟨c0, c1, c2, c3, c4, c5, c6, c8, c9, c10, c11, c12, c13⟩ := hkite
  obtain hw : ∀ q, q < 32 → ∃ n : Nat, n ≤ 780 ∧ (zTk A k (12 + q)).toInt = (zvC A k (12 + q)).toInt + n ∧ (zfly (zvC A) k = false → n = 0) := fun q hq => by
    obtain ⟨n, hn, en⟩ := zls_b hC (p := 12 + q) hk6
    have b := c12 q hq
    cases hf : zfly (zvC A) k
    · refine ⟨0, by omega, ?_, fun _ => rfl⟩
      rw [zTk_s hk6 (by omega) (by omega)]; unfold zWC; rw [zad_val, zls_zero, Int32.add_zero]
      · omega
      · intro q2 hq2
        unfold zct; rw [if_neg]
        rintro ⟨e, -⟩
        have hcr := (znt_mem hC.2.1).mp hq2
        unfold zcr at hcr; rw [e, hf] at hcr; simp at hcr
    · refine ⟨n, hn, ?_, fun q => by cases q⟩
      rw [zTk_s hk6 (by omega) (by omega)]; unfold zWC; rw [zad_val, en]
      exact zt_add rfl (nI_toInt (by omega)) (by omega) (by omega)
  have hfly : zvC A k 8 = 0 → zfly (zvC A) k = true := fun e => by unfold zfly; simp [e, show k < zKn (zvC A) by omega]
  refine ⟨?_, ?_, ?_, ?_, ?_, ?_, ?_, ?_, ?_, ?_, ?_, ?_, ?_⟩
  · rw [lo 0 (by omega) (by omega) (by omega)]; exact c0
  · rw [lo 1 (by omega) (by omega) (by omega)]; exact c1
  · rw [lo 2 (by omega) (by omega) (by omega)]; exact c2
  · rw [lo 3 (by omega) (by omega) (by omega)]; exact c3
  · rw [lo 4 (by omega) (by omega) (by omega)]; exact c4
  · rw [lo 5 (by omega) (by omega) (by omega)]; exact c5
  · rw [lo 6 (by omega) (by omega) (by omega)]; exact c6
  · rw [zTk_8 hk6]
    split
    · decide
    · exact c8
  · rw [lo 9 (by omega) (by omega) (by omega)]; exact c9
  · rw [lo 10 (by omega) (by omega) (by omega)]; exact c10
  · rw [lo 11 (by omega) (by omega) (by omega)]; exact c11
  · intro q hq
    obtain ⟨n, hn, en, hz⟩ := hw q hq
    have b := c12 q hq
    rw [en]
    cases hf : zfly (zvC A) k
    · have := hz hf; omega
    · have := c13 (zfly_lt hf).2 q hq
      omega
  · intro e q hq
    rw [zTk_8 hk6] at e
    cases hcut : zcutP (zvC A) k
    · rw [hcut] at e
      simp only [Bool.false_eq_true, if_false] at e
      have hf := hfly e
      have hi := zcut_iff hC hk6
      rw [hcut, (zWC_sa hC.2.1).fly hk6, hf, Bool.true_and] at hi
      have hn := of_decide_eq_false hi.symm
      rw [lo 6 (by omega) (by omega) (by omega), zTk_s hk6 (by omega) (by omega)]
      rw [zWC_lo (by omega)] at hn
      rcases Int.lt_or_le (zWC (zvC A) k (12 + q)).toInt (zvC A k 6).toInt with a | a
      · exact a
      · exact absurd ((zgw_iff (by omega)).mpr ⟨q, hq, a⟩) hn
    · rw [hcut] at e
      simp at e
/-- a tick of the class, a tick of the reference -/
theorem e4_T {M : zM} {j : Nat} (h : zok (zcA M j)) : ∃ M', fX4_happenIn M j = some ((), M') ∧ zcA M' j = zTk (zcA M j) ∧ M' 20 0 1 = zmk (zcutP (zvC (zcA M j))) ∧ M' 20 0 2 = zmk (zgotP (zvC (zcA M j))) ∧ zwv M' 1 (ztC (zcA M j)) (znt (zvC (zcA M j))) ∧ zfr j 1 M M' := by
  obtain ⟨M1, e1, c1, a1, a2, w1, f1⟩ := e4_tick h
  rw [ztk_eq h] at c1
  rw [ztS_eq h] at a1 a2
  have hC : znt (ztC (zcA M j)) = znt (zvC (zcA M j)) := by
    have : ztC (zcA M j) = zp (zvC (zcA M j)) 6 2 (zcA M j 6 2 + 1) := by unfold ztC; rw [zvC_6 h.2.1, zvC_s h.2.1]
    rw [this]; exact zp62_sa.nt
  rw [hC] at w1
  exact ⟨M1, e1, c1, a1, a2, w1, f1⟩
theorem e7_T {M : zM} (h : zok (zrA (M 27 0))) : ∃ M', fX7_tick M = some ((), M') ∧ zrA (M' 27 0) = zTk (zrA (M 27 0)) ∧ M' 26 0 12 = zmk (zcutP (zvC (zrA (M 27 0)))) ∧ M' 26 0 13 = zmk (zgotP (zvC (zrA (M 27 0)))) ∧ zplc M' (zvC (zrA (M 27 0))) (zKn (zrA (M 27 0))) ∧ zf7 M M' := by
  obtain ⟨M1, e1, c1, a1, a2, p1, f1⟩ := e7_tick h
  rw [zvT_eq h] at c1
  rw [zvm_eq h] at a1
  rw [zvP_eq h] at a2
  exact ⟨M1, e1, c1, a1, a2, p1, f1⟩
