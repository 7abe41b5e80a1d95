def zgp (A : zA) (k o : Nat) : Int := (A o 0).toInt - (A k 0).toInt
def ztn (A : zA) (k o : Nat) : Int := ((A k 1).toInt - (A k 0).toInt) * (A o 2).toInt - (A k 2).toInt * ((A o 1).toInt - (A o 0).toInt)
def zdt (A : zA) (k o : Nat) : Int := ((A k 1).toInt - (A k 0).toInt) * ((A o 1).toInt - (A o 0).toInt) + (A k 2).toInt * (A o 2).toInt
def zga (A : zA) (k o : Nat) : Nat := (zgp A k o).natAbs * (A o 2).toInt.natAbs
def zcr (A : zA) (k o : Nat) : Bool := zfly A k && zfly A o && (decide (k ≠ o) && (decide (0 < zgp A k o * ztn A k o) && (decide (zga A k o < (ztn A k o).natAbs) && decide (zga A o k < (ztn A k o).natAbs))))
def zpl (A : zA) (k o : Nat) : Nat := 32 * zga A k o / (ztn A k o).natAbs
def zst (A : zA) (k o : Nat) : Bool := decide ((zdt A k o).natAbs ≤ (ztn A k o).natAbs)
theorem zgp_sym {A : zA} {k o : Nat} : zgp A o k = -zgp A k o := by unfold zgp; omega
theorem ztn_sym {A : zA} {k o : Nat} : ztn A o k = -ztn A k o := by
  unfold ztn
  rw [Int.mul_comm ((A o 1).toInt - (A o 0).toInt), Int.mul_comm (A o 2).toInt]
  omega
theorem zdt_sym {A : zA} {k o : Nat} : zdt A o k = zdt A k o := by
  unfold zdt
  rw [Int.mul_comm ((A o 1).toInt - (A o 0).toInt), Int.mul_comm (A o 2).toInt]
theorem zcr_sym {A : zA} {k o : Nat} : zcr A o k = zcr A k o := by
  unfold zcr
  rw [ztn_sym (k := k) (o := o), zgp_sym (k := k) (o := o), Int.neg_mul_neg, Int.natAbs_neg]
  cases zfly A k <;> cases zfly A o <;> simp only [Bool.true_and, Bool.and_true, Bool.false_and, Bool.and_false]
  rw [show decide (o ≠ k) = decide (k ≠ o) from decide_eq_decide.mpr ⟨Ne.symm, Ne.symm⟩]
  cases decide (zga A k o < (ztn A k o).natAbs) <;> cases decide (zga A o k < (ztn A k o).natAbs) <;> simp
theorem zst_sym {A : zA} {k o : Nat} : zst A o k = zst A k o := by
  unfold zst; rw [zdt_sym, ztn_sym (k := k) (o := o), Int.natAbs_neg]
theorem zfly_lt {A : zA} {k : Nat} (h : zfly A k = true) : k < zKn A ∧ A k 8 = 0 := by simpa [zfly] using h
def zkp (A : zA) (k : Nat) : Prop := (0 ≤ (A k 0).toInt ∧ (A k 0).toInt ≤ 63) ∧ (0 ≤ (A k 1).toInt ∧ (A k 1).toInt ≤ 63) ∧ (1 ≤ (A k 2).toInt ∧ (A k 2).toInt ≤ 47)
theorem zkite.kp {A : zA} {k : Nat} (h : zkite A k) : zkp A k := ⟨h.1, h.2.1, h.2.2.1⟩
theorem z_sz {A : zA} {k o : Nat} (hk : zkp A k) (ho : zkp A o) : (zgp A k o).natAbs ≤ 63 ∧ (ztn A k o).natAbs ≤ 5922 ∧ (zdt A k o).natAbs ≤ 6178 ∧ zga A k o ≤ 2961 ∧ zga A o k ≤ 2961 := by
  obtain ⟨k0, k1, k2⟩ := hk
  obtain ⟨o0, o1, o2⟩ := ho
  have g : (zgp A k o).natAbs ≤ 63 := by unfold zgp; omega
  have g' : (zgp A o k).natAbs ≤ 63 := by unfold zgp; omega
  have p1 := zm_bound (a := (A k 1).toInt - (A k 0).toInt) (b := (A o 2).toInt) (m := 63) (n := 47) (by omega) (by omega)
  have p2 := zm_bound (a := (A k 2).toInt) (b := (A o 1).toInt - (A o 0).toInt) (m := 47) (n := 63) (by omega) (by omega)
  have p3 := zm_bound (a := (A k 1).toInt - (A k 0).toInt) (b := (A o 1).toInt - (A o 0).toInt) (m := 63) (n := 63) (by omega) (by omega)
  have p4 := zm_bound (a := (A k 2).toInt) (b := (A o 2).toInt) (m := 47) (n := 47) (by omega) (by omega)
  refine ⟨g, by unfold ztn; omega, by unfold zdt; omega, ?_, ?_⟩
  · exact Nat.le_trans (Nat.mul_le_mul g (show (A o 2).toInt.natAbs ≤ 47 by omega)) (by decide)
  · exact Nat.le_trans (Nat.mul_le_mul g' (show (A k 2).toInt.natAbs ≤ 47 by omega)) (by decide)
theorem zpl_lt {A : zA} {k o : Nat} (h : zcr A k o = true) : zpl A k o < 32 := by
  simp only [zcr, Bool.and_eq_true, decide_eq_true_eq] at h
  obtain ⟨-, -, -, h1, -⟩ := h
  unfold zpl
  exact Nat.div_lt_of_lt_mul (by omega)
theorem e5_pair {M : zM} {w j k o : Nat} (h : zok (zcA M j)) (hko : k < o) (hk : zfly (zcA M j) k = true) (ho : zfly (zcA M j) o = true) : fX5_measurePair M w j (nI k) (nI o) =
    if zcr (zcA M j) k o then zC (fX5_note M w (nI k) (nI o) (nI (zpl (zcA M j) k o)) (zb (zst (zcA M j) k o))) (fun _ M1 => zC (fX5_note M1 w (nI o) (nI k) (nI (zpl (zcA M j) o k)) (zb (zst (zcA M j) k o))) (fun _ M2 => some ((), M2))) else some ((), M) := by
  have hk1 := zfly_lt hk
  have ho1 := zfly_lt ho
  have hK := h.2.1
  have hk6 : k < 6 := by omega
  have ho6 : o < 6 := by omega
  obtain ⟨b1, b2, b3, b4, b5⟩ := z_sz (h.2.2 k hk1.1).kp (h.2.2 o ho1.1).kp
  obtain ⟨k0, k1, k2, -⟩ := h.2.2 k hk1.1
  obtain ⟨o0, o1, o2, -⟩ := h.2.2 o ho1.1
  have p1 := zm_bound (a := (zcA M j k 1).toInt - (zcA M j k 0).toInt) (b := (zcA M j o 2).toInt) (m := 63) (n := 47) (by omega) (by omega)
  have p2 := zm_bound (a := (zcA M j k 2).toInt) (b := (zcA M j o 1).toInt - (zcA M j o 0).toInt) (m := 47) (n := 63) (by omega) (by omega)
  have p3 := zm_bound (a := (zcA M j k 1).toInt - (zcA M j k 0).toInt) (b := (zcA M j o 1).toInt - (zcA M j o 0).toInt) (m := 63) (n := 63) (by omega) (by omega)
  have p4 := zm_bound (a := (zcA M j k 2).toInt) (b := (zcA M j o 2).toInt) (m := 47) (n := 47) (by omega) (by omega)
  have p5 := zm_bound (a := zgp (zcA M j) k o) (b := ztn (zcA M j) k o) b1 b2
  have e21 : (zcA M j k 1 - zcA M j k 0).toInt = (zcA M j k 1).toInt - (zcA M j k 0).toInt := zt_sub rfl rfl (by omega) (by omega)
  have e23 : (zcA M j o 1 - zcA M j o 0).toInt = (zcA M j o 1).toInt - (zcA M j o 0).toInt := zt_sub rfl rfl (by omega) (by omega)
  have e25 : (zcA M j o 0 - zcA M j k 0).toInt = zgp (zcA M j) k o := zt_sub rfl rfl (by omega) (by omega)
  have e26 : ((zcA M j k 1 - zcA M j k 0) * zcA M j o 2 - zcA M j k 2 * (zcA M j o 1 - zcA M j o 0)).toInt = ztn (zcA M j) k o :=
    zt_sub (zt_mul e21 rfl (by omega) (by omega)) (zt_mul rfl e23 (by omega) (by omega)) (by omega) (by omega)
  have ed : ((zcA M j k 1 - zcA M j k 0) * (zcA M j o 1 - zcA M j o 0) + zcA M j k 2 * zcA M j o 2).toInt = zdt (zcA M j) k o :=
    zt_add (zt_mul e21 e23 (by omega) (by omega)) (zt_mul rfl rfl (by omega) (by omega)) (by omega) (by omega)
  have egt : ((zcA M j o 0 - zcA M j k 0) * ((zcA M j k 1 - zcA M j k 0) * zcA M j o 2 - zcA M j k 2 * (zcA M j o 1 - zcA M j o 0))).toInt = zgp (zcA M j) k o * ztn (zcA M j) k o :=
    zt_mul e25 e26 (by omega) (by omega)
  have yo : zcA M j o 2 = nI (zcA M j o 2).toInt.natAbs := by
    obtain ⟨n, h1, h2, h3⟩ := znat (x := zcA M j o 2) (by omega)
    rw [h3]; exact h2
  have yk : zcA M j k 2 = nI (zcA M j k 2).toInt.natAbs := by
    obtain ⟨n, h1, h2, h3⟩ := znat (x := zcA M j k 2) (by omega)
    rw [h3]; exact h2
  have a27 := zabs_nI e26 (by omega)
  have a25 := zabs_nI e25 (by omega)
  have ad := zabs_nI ed (by omega)
  have m28 : zabs (zcA M j o 0 - zcA M j k 0) * zcA M j o 2 = nI (zga (zcA M j) k o) := by
    rw [a25]; unfold zga; conv => lhs; rw [yo]
    exact pk_mul _ _
  have m29 : zabs (zcA M j o 0 - zcA M j k 0) * zcA M j k 2 = nI (zga (zcA M j) o k) := by
    rw [a25]; unfold zga; rw [zgp_sym (k := k) (o := o), Int.natAbs_neg]; conv => lhs; rw [yk]
    exact pk_mul _ _
  have i0 : (0 : Int32).toInt = 0 := rfl
  have x1 := zix_nI hk6 (show 6 < 2 ^ 31 by omega)
  have x2 := zix_nI ho6 (show 6 < 2 ^ 31 by omega)
  have n1 := zN_nI (show k < 2 ^ 31 by omega)
  have n2 := zN_nI (show o < 2 ^ 31 by omega)
  unfold fX5_measurePair
  simp only [zI_eq x1, zI_eq x2, zL_eq, n1, n2, zr0 hk6, zr1 hk6, zr2 hk6, zr0 ho6, zr1 ho6, zr2 ho6]
  rw [m28, m29, a27, ad]
  simp only [zlt_i (x := 0), egt, i0]
  have hcr : zcr (zcA M j) k o = (decide (0 < zgp (zcA M j) k o * ztn (zcA M j) k o) && (decide (zga (zcA M j) k o < (ztn (zcA M j) k o).natAbs) && decide (zga (zcA M j) o k < (ztn (zcA M j) k o).natAbs))) := by
    unfold zcr; rw [hk, ho]; simp [show k ≠ o by omega]
  by_cases c0 : (ztn (zcA M j) k o).natAbs = 0
  · have c1 : ¬ 0 < zgp (zcA M j) k o * ztn (zcA M j) k o := by
      rw [show ztn (zcA M j) k o = 0 by omega, Int.mul_zero]; omega
    rw [if_pos (by rw [c0]; rfl), hcr]; simp [c1]
  rw [if_neg (nI_ne0 (by omega) (by omega))]
  by_cases c1 : 0 < zgp (zcA M j) k o * ztn (zcA M j) k o
  · rw [if_pos c1]
    have q1 := zle (a := (ztn (zcA M j) k o).natAbs) (b := zga (zcA M j) k o) (by omega) (by omega)
    have q2 := zlt (a := zga (zcA M j) o k) (b := (ztn (zcA M j) k o).natAbs) (by omega) (by omega)
    have q3 := zlt (a := (ztn (zcA M j) k o).natAbs) (b := (zdt (zcA M j) k o).natAbs) (by omega) (by omega)
    simp only [q1, q2, q3]
    by_cases c2 : (ztn (zcA M j) k o).natAbs ≤ zga (zcA M j) k o
    · rw [if_pos c2, hcr]; simp [c1, show ¬ zga (zcA M j) k o < (ztn (zcA M j) k o).natAbs by omega]
    · rw [if_neg c2]
      by_cases c3 : zga (zcA M j) o k < (ztn (zcA M j) k o).natAbs
      · rw [if_pos c3, hcr]
        have hz : ¬ nI (ztn (zcA M j) k o).natAbs = 0 := nI_ne0 (by omega) (by omega)
        have d1 : 32 * nI (zga (zcA M j) k o) / nI (ztn (zcA M j) k o).natAbs = nI (zpl (zcA M j) k o) := by
          rw [show (32 : Int32) = nI 32 from rfl, pk_mul, pk_div (by omega) (by omega) (by omega)]; rfl
        have d2 : 32 * nI (zga (zcA M j) o k) / nI (ztn (zcA M j) k o).natAbs = nI (zpl (zcA M j) o k) := by
          rw [show (32 : Int32) = nI 32 from rfl, pk_mul, pk_div (by omega) (by omega) (by omega)]; unfold zpl; rw [ztn_sym (k := k) (o := o), Int.natAbs_neg]
        simp only [zV_eq hz, d1, d2]
        by_cases c4 : (ztn (zcA M j) k o).natAbs < (zdt (zcA M j) k o).natAbs
        · simp [c1, c3, c4, show zga (zcA M j) k o < (ztn (zcA M j) k o).natAbs by omega, zst, show ¬ (zdt (zcA M j) k o).natAbs ≤ (ztn (zcA M j) k o).natAbs by omega, zb]
        · simp [c1, c3, c4, show zga (zcA M j) k o < (ztn (zcA M j) k o).natAbs by omega, zst, show (zdt (zcA M j) k o).natAbs ≤ (ztn (zcA M j) k o).natAbs by omega, zb]
      · rw [if_neg c3, hcr]; simp [c3]
  · rw [if_neg c1, hcr]; simp [c1]

theorem z7ix {k p : Nat} (hk : k < 6) (hp : p < 44) : (4 + 44 * nI k) + nI p = nI (44 * k + p + 4) := by
  rw [show (4 : Int32) = nI 4 from rfl, show (44 : Int32) = nI 44 from rfl, pk_mul, nI_add, nI_add]
  congr 1; omega
theorem z_sides {g t : Int} {a b : Int} (ha : 0 < a) (hb : 0 < b) :
    (((-(a * g) < 0 ∧ 0 < t - a * g) ∨ (0 < -(a * g) ∧ t - a * g < 0)) ∧ ((b * g < 0 ∧ 0 < b * g - t) ∨ (0 < b * g ∧ b * g - t < 0))) ↔ (0 < g * t ∧ (g.natAbs * b.natAbs < t.natAbs ∧ g.natAbs * a.natAbs < t.natAbs)) := by
  have hA : g.natAbs * a.natAbs = (a * g).natAbs := by rw [Int.natAbs_mul, Nat.mul_comm]
  have hB : g.natAbs * b.natAbs = (b * g).natAbs := by rw [Int.natAbs_mul, Nat.mul_comm]
  rw [hA, hB]
  rcases Int.lt_trichotomy g 0 with h | h | h
  · have h1 : a * g < 0 := Int.mul_neg_of_pos_of_neg ha h
    have h2 : b * g < 0 := Int.mul_neg_of_pos_of_neg hb h
    have h3 : 0 < g * t ↔ t < 0 := by
      constructor
      · intro q
        rcases Int.lt_trichotomy t 0 with k | k | k
        · exact k
        · rw [k, Int.mul_zero] at q; omega
        · have := Int.mul_neg_of_neg_of_pos h k; omega
      · exact fun q => Int.mul_pos_of_neg_of_neg h q
    rw [h3]; omega
  · subst h; simp
  · have h1 : 0 < a * g := Int.mul_pos ha h
    have h2 : 0 < b * g := Int.mul_pos hb h
    have h3 : 0 < g * t ↔ 0 < t := by
      constructor
      · intro q
        rcases Int.lt_trichotomy t 0 with k | k | k
        · have := Int.mul_neg_of_pos_of_neg h k; omega
        · rw [k, Int.mul_zero] at q; omega
        · exact k
      · exact fun q => Int.mul_pos h q
    rw [h3]; omega
theorem z_q3 {Q t : Int} (h : (Q < 0 ∧ 0 < Q - t) ∨ (0 < Q ∧ Q - t < 0)) : Q.natAbs + (Q - t).natAbs = t.natAbs := by omega
theorem z_q4 {P t : Int} (h : (-P < 0 ∧ 0 < t - P) ∨ (0 < -P ∧ t - P < 0)) : (-P).natAbs + (t - P).natAbs = t.natAbs := by omega
def zcx (A : zA) (k o : Nat) : Bool := decide (0 < zgp A k o * ztn A k o) && (decide (zga A k o < (ztn A k o).natAbs) && decide (zga A o k < (ztn A k o).natAbs))
theorem z_rx {A : zA} {k o : Nat} (kk : zkp A k) (ko : zkp A o) :
    ((A k 1 - A k 0) * 0 - A k 2 * (A o 0 - A k 0)).toInt = -((A k 2).toInt * zgp A k o) ∧
    ((A o 1 - A o 0) * 0 - A o 2 * (A k 0 - A o 0)).toInt = (A o 2).toInt * zgp A k o ∧
    ((A k 1 - A k 0) * A o 2 - A k 2 * (A o 1 - A k 0)).toInt = ztn A k o - (A k 2).toInt * zgp A k o ∧
    ((A o 1 - A o 0) * A k 2 - A o 2 * (A k 1 - A o 0)).toInt = (A o 2).toInt * zgp A k o - ztn A k o ∧
    ((A k 1 - A k 0) * A o 2 - A k 2 * (A o 1 - A o 0)).toInt = ztn A k o ∧
    ((A k 1 - A k 0) * (A o 1 - A o 0) + A k 2 * A o 2).toInt = zdt A k o ∧
    ((A k 2).toInt * zgp A k o).natAbs ≤ 2961 ∧ ((A o 2).toInt * zgp A k o).natAbs ≤ 2961 := by
  obtain ⟨b1, b2, b3, b4, b5⟩ := z_sz kk ko
  obtain ⟨k0, k1, k2⟩ := kk
  obtain ⟨o0, o1, o2⟩ := ko
  have p1 := zm_bound (a := (A k 1).toInt - (A k 0).toInt) (b := (A o 2).toInt) (m := 63) (n := 47) (by omega) (by omega)
  have p2 := zm_bound (a := (A k 2).toInt) (b := (A o 1).toInt - (A o 0).toInt) (m := 47) (n := 63) (by omega) (by omega)
  have p3 := zm_bound (a := (A k 1).toInt - (A k 0).toInt) (b := (A o 1).toInt - (A o 0).toInt) (m := 63) (n := 63) (by omega) (by omega)
  have p4 := zm_bound (a := (A k 2).toInt) (b := (A o 2).toInt) (m := 47) (n := 47) (by omega) (by omega)
  have p6 := zm_bound (a := (A k 2).toInt) (b := zgp A k o) (m := 47) (n := 63) (by omega) (by omega)
  have p7 := zm_bound (a := (A o 2).toInt) (b := zgp A k o) (m := 47) (n := 63) (by omega) (by omega)
  have p8 := zm_bound (a := (A k 2).toInt) (b := (A o 1).toInt - (A k 0).toInt) (m := 47) (n := 63) (by omega) (by omega)
  have p9 := zm_bound (a := (A o 2).toInt) (b := (A k 1).toInt - (A o 0).toInt) (m := 47) (n := 63) (by omega) (by omega)
  have p10 := zm_bound (a := (A o 1).toInt - (A o 0).toInt) (b := (A k 2).toInt) (m := 63) (n := 47) (by omega) (by omega)
  have euk : (A k 1 - A k 0).toInt = (A k 1).toInt - (A k 0).toInt := zt_sub rfl rfl (by omega) (by omega)
  have euo : (A o 1 - A o 0).toInt = (A o 1).toInt - (A o 0).toInt := zt_sub rfl rfl (by omega) (by omega)
  have eg : (A o 0 - A k 0).toInt = zgp A k o := zt_sub rfl rfl (by omega) (by omega)
  have eg' : (A k 0 - A o 0).toInt = -zgp A k o := by rw [zt_sub rfl rfl (by omega) (by omega)]; unfold zgp; omega
  have z0 : ∀ x : Int32, x * 0 = 0 := fun x => Int32.mul_zero
  refine ⟨?_, ?_, ?_, ?_, ?_, ?_, p6, p7⟩
  · rw [z0, zt_sub Int32_0 (zt_mul rfl eg (by omega) (by omega)) (by omega) (by omega)]; omega
  · have e : (A o 2 * (A k 0 - A o 0)).toInt = (A o 2).toInt * -zgp A k o := zt_mul rfl eg' (by rw [Int.mul_neg]; omega) (by rw [Int.mul_neg]; omega)
    rw [Int.mul_neg] at e
    rw [z0, zt_sub Int32_0 e (by omega) (by omega)]; omega
  · have e1 : (A o 1 - A k 0).toInt = (A o 1).toInt - (A k 0).toInt := zt_sub rfl rfl (by omega) (by omega)
    rw [zt_sub (zt_mul euk rfl (by omega) (by omega)) (zt_mul rfl e1 (by omega) (by omega)) (by omega) (by omega)]
    unfold ztn zgp
    have : (A k 2).toInt * ((A o 1).toInt - (A k 0).toInt) = (A k 2).toInt * ((A o 1).toInt - (A o 0).toInt) + (A k 2).toInt * ((A o 0).toInt - (A k 0).toInt) := by rw [← Int.mul_add]; congr 1; omega
    omega
  · have e1 : (A k 1 - A o 0).toInt = (A k 1).toInt - (A o 0).toInt := zt_sub rfl rfl (by omega) (by omega)
    rw [zt_sub (zt_mul euo rfl (by omega) (by omega)) (zt_mul rfl e1 (by omega) (by omega)) (by omega) (by omega)]
    unfold ztn zgp
    have h1 : (A o 2).toInt * ((A k 1).toInt - (A o 0).toInt) = (A o 2).toInt * ((A k 1).toInt - (A k 0).toInt) - (A o 2).toInt * ((A o 0).toInt - (A k 0).toInt) := by rw [← Int.mul_sub]; congr 1; omega
    have h2 := Int.mul_comm ((A o 1).toInt - (A o 0).toInt) (A k 2).toInt
    have h3 := Int.mul_comm ((A k 1).toInt - (A k 0).toInt) (A o 2).toInt
    omega
  · exact zt_sub (zt_mul euk rfl (by omega) (by omega)) (zt_mul rfl euo (by omega) (by omega)) (by omega) (by omega)
  · exact zt_add (zt_mul euk euo (by omega) (by omega)) (zt_mul rfl rfl (by omega) (by omega)) (by omega) (by omega)
theorem z_rx2 {A : zA} {k o : Nat} {r24 r28 r34 r40 : Int32} (kk : zkp A k) (ko : zkp A o) (h24 : r24.toInt = -((A k 2).toInt * zgp A k o)) (h28 : r28.toInt = (A o 2).toInt * zgp A k o) (h34 : r34.toInt = ztn A k o - (A k 2).toInt * zgp A k o) (h40 : r40.toInt = (A o 2).toInt * zgp A k o - ztn A k o) :
    (decide ((r24.toInt < 0 ∧ 0 < r34.toInt) ∨ (0 < r24.toInt ∧ r34.toInt < 0)) && decide ((r28.toInt < 0 ∧ 0 < r40.toInt) ∨ (0 < r28.toInt ∧ r40.toInt < 0))) = zcx A k o := by
  have hs := z_sides (g := zgp A k o) (t := ztn A k o) (a := (A k 2).toInt) (b := (A o 2).toInt) (by have := kk.2.2; omega) (by have := ko.2.2; omega)
  have hgo : zga A o k = (zgp A k o).natAbs * (A k 2).toInt.natAbs := by unfold zga; rw [zgp_sym (k := k) (o := o), Int.natAbs_neg]
  have hgk : zga A k o = (zgp A k o).natAbs * (A o 2).toInt.natAbs := rfl
  rw [← hgo, ← hgk] at hs
  unfold zcx
  rw [h24, h28, h34, h40, ← Bool.decide_and, ← Bool.decide_and, ← Bool.decide_and]
  exact decide_eq_decide.mpr hs
theorem z_rx3 {A : zA} {k o : Nat} {r24 r28 r34 r40 : Int32} (kk : zkp A k) (ko : zkp A o) (h24 : r24.toInt = -((A k 2).toInt * zgp A k o)) (h28 : r28.toInt = (A o 2).toInt * zgp A k o) (h34 : r34.toInt = ztn A k o - (A k 2).toInt * zgp A k o) (h40 : r40.toInt = (A o 2).toInt * zgp A k o - ztn A k o)
    (hp : ((A k 2).toInt * zgp A k o).natAbs ≤ 2961) (hq : ((A o 2).toInt * zgp A k o).natAbs ≤ 2961) (hc : zcx A k o = true) :
    zabs r28 = nI (zga A k o) ∧ zabs r24 = nI (zga A o k) ∧ zabs r28 + zabs r40 = nI (ztn A k o).natAbs ∧ zabs r24 + zabs r34 = nI (ztn A k o).natAbs ∧ 32 * zabs r28 / nI (ztn A k o).natAbs = nI (zpl A k o) ∧ 32 * zabs r24 / nI (ztn A k o).natAbs = nI (zpl A o k) ∧ ¬ nI (ztn A k o).natAbs = 0 := by
  have hx := z_rx2 kk ko h24 h28 h34 h40
  rw [hc, Bool.and_eq_true, decide_eq_true_eq, decide_eq_true_eq, h24, h28, h34, h40] at hx
  obtain ⟨hx1, hx2⟩ := hx
  obtain ⟨b1, b2, b3, b4, b5⟩ := z_sz kk ko
  simp only [zcx, Bool.and_eq_true, decide_eq_true_eq] at hc
  obtain ⟨s1, s2, s3⟩ := hc
  have q1 : ((A o 2).toInt * zgp A k o).natAbs = zga A k o := by rw [Int.natAbs_mul, Nat.mul_comm]; rfl
  have q2 : (-((A k 2).toInt * zgp A k o)).natAbs = zga A o k := by
    rw [Int.natAbs_neg, Int.natAbs_mul, Nat.mul_comm]; unfold zga; rw [zgp_sym (k := k) (o := o), Int.natAbs_neg]
  have q3 := z_q3 hx2
  have q4 := z_q4 hx1
  have a28 := zabs_nI h28 (by omega)
  have a40 := zabs_nI h40 (by omega)
  have a24 := zabs_nI h24 (by omega)
  have a34 := zabs_nI h34 (by omega)
  refine ⟨by rw [a28, q1], by rw [a24, q2], by rw [a28, a40, nI_add, q3], by rw [a24, a34, nI_add, q4], ?_, ?_, nI_ne0 (by omega) (by omega)⟩
  · rw [a28, q1, show (32 : Int32) = nI 32 from rfl, pk_mul, pk_div (by omega) (by omega) (by omega)]; rfl
  · rw [a24, q2, show (32 : Int32) = nI 32 from rfl, pk_mul, pk_div (by omega) (by omega) (by omega)]; unfold zpl; rw [ztn_sym (k := k) (o := o), Int.natAbs_neg]
theorem zcr_cx {A : zA} {k o : Nat} (hne : k ≠ o) : zcr A k o = (zfly A k && zfly A o && zcx A k o) := by
  unfold zcr zcx; simp [hne]
