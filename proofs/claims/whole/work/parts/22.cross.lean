/-! ===== where strings cross ===== -/
def zgp (A : zA) (k o : Nat) : Int := (A o 0).toInt - (A k 0).toInt
def ztn (A : zA) (k o : Nat) : Int := ((A k 1).toInt - (A k 0).toInt) * (A o 2).toInt - (A k 2).toInt * ((A o 1).toInt - (A o 0).toInt)
def zdt (A : zA) (k o : Nat) : Int := ((A k 1).toInt - (A k 0).toInt) * ((A o 1).toInt - (A o 0).toInt) + (A k 2).toInt * (A o 2).toInt
def zga (A : zA) (k o : Nat) : Nat := (zgp A k o).natAbs * (A o 2).toInt.natAbs
def zcr (A : zA) (k o : Nat) : Bool := zfly A k && zfly A o && (decide (k ≠ o) && (decide (0 < zgp A k o * ztn A k o) && (decide (zga A k o < (ztn A k o).natAbs) && decide (zga A o k < (ztn A k o).natAbs))))
def zpl (A : zA) (k o : Nat) : Nat := 32 * zga A k o / (ztn A k o).natAbs
def zst (A : zA) (k o : Nat) : Bool := decide ((zdt A k o).natAbs ≤ (ztn A k o).natAbs)
theorem zgp_sym {A : zA} {k o : Nat} : zgp A o k = -zgp A k o := by unfold zgp; omega
theorem ztn_sym {A : zA} {k o : Nat} : ztn A o k = -ztn A k o := by
  unfold ztn
  rw [Int.mul_comm ((A o 1).toInt - (A o 0).toInt), Int.mul_comm (A o 2).toInt]
  omega
theorem zdt_sym {A : zA} {k o : Nat} : zdt A o k = zdt A k o := by
  unfold zdt
  rw [Int.mul_comm ((A o 1).toInt - (A o 0).toInt), Int.mul_comm (A o 2).toInt]
theorem zcr_sym {A : zA} {k o : Nat} : zcr A o k = zcr A k o := by
  unfold zcr
  rw [ztn_sym (k := k) (o := o), zgp_sym (k := k) (o := o), Int.neg_mul_neg, Int.natAbs_neg]
  cases zfly A k <;> cases zfly A o <;> simp only [Bool.true_and, Bool.and_true, Bool.false_and, Bool.and_false]
  rw [show decide (o ≠ k) = decide (k ≠ o) from decide_eq_decide.mpr ⟨Ne.symm, Ne.symm⟩]
  cases decide (zga A k o < (ztn A k o).natAbs) <;> cases decide (zga A o k < (ztn A k o).natAbs) <;> simp
theorem zst_sym {A : zA} {k o : Nat} : zst A o k = zst A k o := by
  unfold zst; rw [zdt_sym, ztn_sym (k := k) (o := o), Int.natAbs_neg]
/-- the sizes -/
theorem zfly_lt {A : zA} {k : Nat} (h : zfly A k = true) : k < zKn A ∧ A k 8 = 0 := by simpa [zfly] using h
def zkp (A : zA) (k : Nat) : Prop := (0 ≤ (A k 0).toInt ∧ (A k 0).toInt ≤ 63) ∧ (0 ≤ (A k 1).toInt ∧ (A k 1).toInt ≤ 63) ∧ (1 ≤ (A k 2).toInt ∧ (A k 2).toInt ≤ 47)
theorem zkite.kp {A : zA} {k : Nat} (h : zkite A k) : zkp A k := ⟨h.1, h.2.1, h.2.2.1⟩
theorem z_sz {A : zA} {k o : Nat} (hk : zkp A k) (ho : zkp A o) : (zgp A k o).natAbs ≤ 63 ∧ (ztn A k o).natAbs ≤ 5922 ∧ (zdt A k o).natAbs ≤ 6178 ∧ zga A k o ≤ 2961 ∧ zga A o k ≤ 2961 := by
  obtain ⟨k0, k1, k2⟩ := hk
  obtain ⟨o0, o1, o2⟩ := ho
  have g : (zgp A k o).natAbs ≤ 63 := by unfold zgp; omega
  have g' : (zgp A o k).natAbs ≤ 63 := by unfold zgp; omega
  have p1 := zm_bound (a := (A k 1).toInt - (A k 0).toInt) (b := (A o 2).toInt) (m := 63) (n := 47) (by omega) (by omega)
  have p2 := zm_bound (a := (A k 2).toInt) (b := (A o 1).toInt - (A o 0).toInt) (m := 47) (n := 63) (by omega) (by omega)
  have p3 := zm_bound (a := (A k 1).toInt - (A k 0).toInt) (b := (A o 1).toInt - (A o 0).toInt) (m := 63) (n := 63) (by omega) (by omega)
  have p4 := zm_bound (a := (A k 2).toInt) (b := (A o 2).toInt) (m := 47) (n := 47) (by omega) (by omega)
  refine ⟨g, by unfold ztn; omega, by unfold zdt; omega, ?_, ?_⟩
  · exact Nat.le_trans (Nat.mul_le_mul g (show (A o 2).toInt.natAbs ≤ 47 by omega)) (by decide)
  · exact Nat.le_trans (Nat.mul_le_mul g' (show (A k 2).toInt.natAbs ≤ 47 by omega)) (by decide)
theorem zpl_lt {A : zA} {k o : Nat} (h : zcr A k o = true) : zpl A k o < 32 := by
  simp only [zcr, Bool.and_eq_true, decide_eq_true_eq] at h
  obtain ⟨-, -, -, h1, -⟩ := h
  unfold zpl
  exact Nat.div_lt_of_lt_mul (by omega)
theorem e5_pair {M : zM} {w j k o : Nat} (h : zok (zcA M j)) (hko : k < o) (hk : zfly (zcA M j) k = true) (ho : zfly (zcA M j) o = true) : fX5_measurePair M w j (nI k) (nI o) =
    if zcr (zcA M j) k o then zC (fX5_note M w (nI k) (nI o) (nI (zpl (zcA M j) k o)) (zb (zst (zcA M j) k o))) (fun _ M1 => zC (fX5_note M1 w (nI o) (nI k) (nI (zpl (zcA M j) o k)) (zb (zst (zcA M j) k o))) (fun _ M2 => some ((), M2))) else some ((), M) := by
  have hk1 := zfly_lt hk
  have ho1 := zfly_lt ho
  have hK := h.2.1
  have hk6 : k < 6 := by omega
  have ho6 : o < 6 := by omega
  obtain ⟨b1, b2, b3, b4, b5⟩ := z_sz (h.2.2 k hk1.1).kp (h.2.2 o ho1.1).kp
  obtain ⟨k0, k1, k2, -⟩ := h.2.2 k hk1.1
  obtain ⟨o0, o1, o2, -⟩ := h.2.2 o ho1.1
  have p1 := zm_bound (a := (zcA M j k 1).toInt - (zcA M j k 0).toInt) (b := (zcA M j o 2).toInt) (m := 63) (n := 47) (by omega) (by omega)
  have p2 := zm_bound (a := (zcA M j k 2).toInt) (b := (zcA M j o 1).toInt - (zcA M j o 0).toInt) (m := 47) (n := 63) (by omega) (by omega)
  have p3 := zm_bound (a := (zcA M j k 1).toInt - (zcA M j k 0).toInt) (b := (zcA M j o 1).toInt - (zcA M j o 0).toInt) (m := 63) (n := 63) (by omega) (by omega)
  have p4 := zm_bound (a := (zcA M j k 2).toInt) (b := (zcA M j o 2).toInt) (m := 47) (n := 47) (by omega) (by omega)
  have p5 := zm_bound (a := zgp (zcA M j) k o) (b := ztn (zcA M j) k o) b1 b2
  have e21 : (zcA M j k 1 - zcA M j k 0).toInt = (zcA M j k 1).toInt - (zcA M j k 0).toInt := zt_sub rfl rfl (by omega) (by omega)
  have e23 : (zcA M j o 1 - zcA M j o 0).toInt = (zcA M j o 1).toInt - (zcA M j o 0).toInt := zt_sub rfl rfl (by omega) (by omega)
  have e25 : (zcA M j o 0 - zcA M j k 0).toInt = zgp (zcA M j) k o := zt_sub rfl rfl (by omega) (by omega)
  have e26 : ((zcA M j k 1 - zcA M j k 0) * zcA M j o 2 - zcA M j k 2 * (zcA M j o 1 - zcA M j o 0)).toInt = ztn (zcA M j) k o :=
    zt_sub (zt_mul e21 rfl (by omega) (by omega)) (zt_mul rfl e23 (by omega) (by omega)) (by omega) (by omega)
  have ed : ((zcA M j k 1 - zcA M j k 0) * (zcA M j o 1 - zcA M j o 0) + zcA M j k 2 * zcA M j o 2).toInt = zdt (zcA M j) k o :=
    zt_add (zt_mul e21 e23 (by omega) (by omega)) (zt_mul rfl rfl (by omega) (by omega)) (by omega) (by omega)
  have egt : ((zcA M j o 0 - zcA M j k 0) * ((zcA M j k 1 - zcA M j k 0) * zcA M j o 2 - zcA M j k 2 * (zcA M j o 1 - zcA M j o 0))).toInt = zgp (zcA M j) k o * ztn (zcA M j) k o :=
    zt_mul e25 e26 (by omega) (by omega)
  have yo : zcA M j o 2 = nI (zcA M j o 2).toInt.natAbs := by
    obtain ⟨n, h1, h2, h3⟩ := znat (x := zcA M j o 2) (by omega)
    rw [h3]; exact h2
  have yk : zcA M j k 2 = nI (zcA M j k 2).toInt.natAbs := by
    obtain ⟨n, h1, h2, h3⟩ := znat (x := zcA M j k 2) (by omega)
    rw [h3]; exact h2
  have a27 := zabs_nI e26 (by omega)
  have a25 := zabs_nI e25 (by omega)
  have ad := zabs_nI ed (by omega)
  have m28 : zabs (zcA M j o 0 - zcA M j k 0) * zcA M j o 2 = nI (zga (zcA M j) k o) := by
    rw [a25]; unfold zga; conv => lhs; rw [yo]
    exact pk_mul _ _
  have m29 : zabs (zcA M j o 0 - zcA M j k 0) * zcA M j k 2 = nI (zga (zcA M j) o k) := by
    rw [a25]; unfold zga; rw [zgp_sym (k := k) (o := o), Int.natAbs_neg]; conv => lhs; rw [yk]
    exact pk_mul _ _
  have i0 : (0 : Int32).toInt = 0 := rfl
  have x1 := zix_nI hk6 (show 6 < 2 ^ 31 by omega)
  have x2 := zix_nI ho6 (show 6 < 2 ^ 31 by omega)
  have n1 := zN_nI (show k < 2 ^ 31 by omega)
  have n2 := zN_nI (show o < 2 ^ 31 by omega)
  unfold fX5_measurePair
  simp only [zI_eq x1, zI_eq x2, zL_eq, n1, n2, zr0 hk6, zr1 hk6, zr2 hk6, zr0 ho6, zr1 ho6, zr2 ho6]
  rw [m28, m29, a27, ad]
  simp only [zlt_i (x := 0), egt, i0]
  have hcr : zcr (zcA M j) k o = (decide (0 < zgp (zcA M j) k o * ztn (zcA M j) k o) && (decide (zga (zcA M j) k o < (ztn (zcA M j) k o).natAbs) && decide (zga (zcA M j) o k < (ztn (zcA M j) k o).natAbs))) := by
    unfold zcr; rw [hk, ho]; simp [show k ≠ o by omega]
  by_cases c0 : (ztn (zcA M j) k o).natAbs = 0
  · have c1 : ¬ 0 < zgp (zcA M j) k o * ztn (zcA M j) k o := by
      rw [show ztn (zcA M j) k o = 0 by omega, Int.mul_zero]; omega
    rw [if_pos (by rw [c0]; rfl), hcr]; simp [c1]
  rw [if_neg (nI_ne0 (by omega) (by omega))]
  by_cases c1 : 0 < zgp (zcA M j) k o * ztn (zcA M j) k o
  · rw [if_pos c1]
    have q1 := zle (a := (ztn (zcA M j) k o).natAbs) (b := zga (zcA M j) k o) (by omega) (by omega)
    have q2 := zlt (a := zga (zcA M j) o k) (b := (ztn (zcA M j) k o).natAbs) (by omega) (by omega)
    have q3 := zlt (a := (ztn (zcA M j) k o).natAbs) (b := (zdt (zcA M j) k o).natAbs) (by omega) (by omega)
    simp only [q1, q2, q3]
    by_cases c2 : (ztn (zcA M j) k o).natAbs ≤ zga (zcA M j) k o
    · rw [if_pos c2, hcr]; simp [c1, show ¬ zga (zcA M j) k o < (ztn (zcA M j) k o).natAbs by omega]
    · rw [if_neg c2]
      by_cases c3 : zga (zcA M j) o k < (ztn (zcA M j) k o).natAbs
      · rw [if_pos c3, hcr]
        have hz : ¬ nI (ztn (zcA M j) k o).natAbs = 0 := nI_ne0 (by omega) (by omega)
        have d1 : 32 * nI (zga (zcA M j) k o) / nI (ztn (zcA M j) k o).natAbs = nI (zpl (zcA M j) k o) := by
          rw [show (32 : Int32) = nI 32 from rfl, pk_mul, pk_div (by omega) (by omega) (by omega)]; rfl
        have d2 : 32 * nI (zga (zcA M j) o k) / nI (ztn (zcA M j) k o).natAbs = nI (zpl (zcA M j) o k) := by
          rw [show (32 : Int32) = nI 32 from rfl, pk_mul, pk_div (by omega) (by omega) (by omega)]; unfold zpl; rw [ztn_sym (k := k) (o := o), Int.natAbs_neg]
        simp only [zV_eq hz, d1, d2]
        by_cases c4 : (ztn (zcA M j) k o).natAbs < (zdt (zcA M j) k o).natAbs
        · simp [c1, c3, c4, show zga (zcA M j) k o < (ztn (zcA M j) k o).natAbs by omega, zst, show ¬ (zdt (zcA M j) k o).natAbs ≤ (ztn (zcA M j) k o).natAbs by omega, zb]
        · simp [c1, c3, c4, show zga (zcA M j) k o < (ztn (zcA M j) k o).natAbs by omega, zst, show (zdt (zcA M j) k o).natAbs ≤ (ztn (zcA M j) k o).natAbs by omega, zb]
      · rw [if_neg c3, hcr]; simp [c3]
  · rw [if_neg c1, hcr]; simp [c1]
