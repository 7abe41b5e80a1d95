/-! ===== the reference's parts and crossings ===== -/
theorem z7ix {k p : Nat} (hk : k < 6) (hp : p < 44) : (4 + 44 * nI k) + nI p = nI (44 * k + p + 4) := by
  rw [show (4 : Int32) = nI 4 from rfl, show (44 : Int32) = nI 44 from rfl, pk_mul, nI_add, nI_add]
  congr 1; omega
theorem e7_part {M : zM} {k p : Nat} (hk : k < 6) (hp : p < 44) : fX7_part M (nI k) (nI p) = some (zrA (M 27 0) k p, M) := by
  unfold fX7_part
  rw [z7ix hk hp, zI_eq (zix_nI (by omega) (by omega)), zN_nI (by omega), zrr (f := M 27 0) hk hp]
theorem e7_set {M : zM} {k p : Nat} {v : Int32} (hk : k < 6) (hp : p < 44) : fX7_setPart M (nI k) (nI p) v = some ((), zw M 27 0 (44 * k + p + 4) v) := by
  unfold fX7_setPart
  rw [z7ix hk hp, zI_eq (zix_nI (by omega) (by omega)), zN_nI (by omega), zL_eq]
theorem e7_p0 {M : zM} {k : Nat} (hk : k < 6) : fX7_part M (nI k) 0 = some (zrA (M 27 0) k 0, M) := e7_part (p := 0) hk (by omega)
theorem e7_p1 {M : zM} {k : Nat} (hk : k < 6) : fX7_part M (nI k) 1 = some (zrA (M 27 0) k 1, M) := e7_part (p := 1) hk (by omega)
theorem e7_p2 {M : zM} {k : Nat} (hk : k < 6) : fX7_part M (nI k) 2 = some (zrA (M 27 0) k 2, M) := e7_part (p := 2) hk (by omega)
theorem e7_p3 {M : zM} {k : Nat} (hk : k < 6) : fX7_part M (nI k) 3 = some (zrA (M 27 0) k 3, M) := e7_part (p := 3) hk (by omega)
theorem e7_p4 {M : zM} {k : Nat} (hk : k < 6) : fX7_part M (nI k) 4 = some (zrA (M 27 0) k 4, M) := e7_part (p := 4) hk (by omega)
theorem e7_p5 {M : zM} {k : Nat} (hk : k < 6) : fX7_part M (nI k) 5 = some (zrA (M 27 0) k 5, M) := e7_part (p := 5) hk (by omega)
theorem e7_p6 {M : zM} {k : Nat} (hk : k < 6) : fX7_part M (nI k) 6 = some (zrA (M 27 0) k 6, M) := e7_part (p := 6) hk (by omega)
theorem e7_p7 {M : zM} {k : Nat} (hk : k < 6) : fX7_part M (nI k) 7 = some (zrA (M 27 0) k 7, M) := e7_part (p := 7) hk (by omega)
theorem e7_p8 {M : zM} {k : Nat} (hk : k < 6) : fX7_part M (nI k) 8 = some (zrA (M 27 0) k 8, M) := e7_part (p := 8) hk (by omega)
theorem e7_p9 {M : zM} {k : Nat} (hk : k < 6) : fX7_part M (nI k) 9 = some (zrA (M 27 0) k 9, M) := e7_part (p := 9) hk (by omega)
theorem e7_p10 {M : zM} {k : Nat} (hk : k < 6) : fX7_part M (nI k) 10 = some (zrA (M 27 0) k 10, M) := e7_part (p := 10) hk (by omega)
theorem e7_p11 {M : zM} {k : Nat} (hk : k < 6) : fX7_part M (nI k) 11 = some (zrA (M 27 0) k 11, M) := e7_part (p := 11) hk (by omega)
theorem e7_size {M : zM} {v : Int32} : fX7_size M v = some (zabs v, M) := by
  unfold fX7_size zabs
  split
  · rfl
  · rw [Int32.zero_sub]
theorem e7_fly {M : zM} {k : Nat} (hk : k < zKn (zrA (M 27 0))) (hK : zKn (zrA (M 27 0)) ≤ 6) : fX7_flies M (nI k) = some (zb (zfly (zrA (M 27 0)) k), M) := by
  unfold fX7_flies
  rw [e7_p8 (by omega), zC_some]
  by_cases h : zrA (M 27 0) k 8 = 0 <;> simp [zfly, hk, h, zb]
theorem e7_kite {M : zM} {v : Int32} (h : zok (zrA (M 27 0))) : fX7_isKite M v = some (zb (zhas (zrA (M 27 0)) v), M) := by
  have h0 : M 27 0 0 = nI (zKn (zrA (M 27 0))) := by rw [zrs (f := M 27 0) (p := 0) (by omega)]; exact h.1
  have hK := h.2.1
  unfold fX7_isKite
  rw [zI_eq (by decide), show zN 0 = 0 from rfl, h0, e7_within, zC_some, zB_zb]
  congr 2
  unfold zwin zhas
  have e : (nI (zKn (zrA (M 27 0))) - 1).toInt = (zKn (zrA (M 27 0)) : Int) - 1 := zt_sub (nI_toInt (by omega)) rfl (by omega) (by omega)
  simp only [e, Int32_0]
  congr 2
  exact decide_eq_decide.mpr ⟨fun q => by omega, fun q => by omega⟩
theorem e7_apart {M : zM} {v w : Int32} : fX7_areApart M v w = some (zb (decide ((v.toInt < 0 ∧ 0 < w.toInt) ∨ (0 < v.toInt ∧ w.toInt < 0))), M) := by
  unfold fX7_areApart zb
  simp only [zle_i, zlt_i, Int32_0]
  by_cases a : 0 ≤ v.toInt
  · by_cases b : v.toInt ≤ 0
    · simp [a, b, show ¬ v.toInt < 0 by omega, show ¬ 0 < v.toInt by omega]
    · by_cases c : 0 ≤ w.toInt
      · simp [a, b, c, show ¬ v.toInt < 0 by omega, show ¬ w.toInt < 0 by omega]
      · simp [a, b, c, show 0 < v.toInt by omega, show w.toInt < 0 by omega]
  · by_cases c : 0 < w.toInt
    · simp [a, c, show v.toInt < 0 by omega]
    · simp [a, c, show v.toInt ≤ 0 by omega, show ¬ 0 < v.toInt by omega]
/-- a crossing, by sides -/
theorem z_sides {g t : Int} {a b : Int} (ha : 0 < a) (hb : 0 < b) :
    (((-(a * g) < 0 ∧ 0 < t - a * g) ∨ (0 < -(a * g) ∧ t - a * g < 0)) ∧ ((b * g < 0 ∧ 0 < b * g - t) ∨ (0 < b * g ∧ b * g - t < 0))) ↔ (0 < g * t ∧ (g.natAbs * b.natAbs < t.natAbs ∧ g.natAbs * a.natAbs < t.natAbs)) := by
  have hA : g.natAbs * a.natAbs = (a * g).natAbs := by rw [Int.natAbs_mul, Nat.mul_comm]
  have hB : g.natAbs * b.natAbs = (b * g).natAbs := by rw [Int.natAbs_mul, Nat.mul_comm]
  rw [hA, hB]
  rcases Int.lt_trichotomy g 0 with h | h | h
  · have h1 : a * g < 0 := Int.mul_neg_of_pos_of_neg ha h
    have h2 : b * g < 0 := Int.mul_neg_of_pos_of_neg hb h
    have h3 : 0 < g * t ↔ t < 0 := by
      constructor
      · intro q
        rcases Int.lt_trichotomy t 0 with k | k | k
        · exact k
        · rw [k, Int.mul_zero] at q; omega
        · have := Int.mul_neg_of_neg_of_pos h k; omega
      · exact fun q => Int.mul_pos_of_neg_of_neg h q
    rw [h3]; omega
  · subst h; simp
  · have h1 : 0 < a * g := Int.mul_pos ha h
    have h2 : 0 < b * g := Int.mul_pos hb h
    have h3 : 0 < g * t ↔ 0 < t := by
      constructor
      · intro q
        rcases Int.lt_trichotomy t 0 with k | k | k
        · have := Int.mul_neg_of_pos_of_neg h k; omega
        · rw [k, Int.mul_zero] at q; omega
        · exact k
      · exact fun q => Int.mul_pos h q
    rw [h3]; omega
theorem z_q3 {Q t : Int} (h : (Q < 0 ∧ 0 < Q - t) ∨ (0 < Q ∧ Q - t < 0)) : Q.natAbs + (Q - t).natAbs = t.natAbs := by omega
theorem z_q4 {P t : Int} (h : (-P < 0 ∧ 0 < t - P) ∨ (0 < -P ∧ t - P < 0)) : (-P).natAbs + (t - P).natAbs = t.natAbs := by omega
theorem e7_side {M : zM} {k : Nat} {v w : Int32} (hk : k < 6) : fX7_sideOf M (nI k) v w = some (((zrA (M 27 0) k 1 - zrA (M 27 0) k 0) * w) - (zrA (M 27 0) k 2 * (v - zrA (M 27 0) k 0)), M) := by
  unfold fX7_sideOf
  simp only [e7_p0 hk, e7_p1 hk, e7_p2 hk, zC_some]
def zcx (A : zA) (k o : Nat) : Bool := decide (0 < zgp A k o * ztn A k o) && (decide (zga A k o < (ztn A k o).natAbs) && decide (zga A o k < (ztn A k o).natAbs))
theorem z_rx {A : zA} {k o : Nat} (kk : zkp A k) (ko : zkp A o) :
    ((A k 1 - A k 0) * 0 - A k 2 * (A o 0 - A k 0)).toInt = -((A k 2).toInt * zgp A k o) ∧
    ((A o 1 - A o 0) * 0 - A o 2 * (A k 0 - A o 0)).toInt = (A o 2).toInt * zgp A k o ∧
    ((A k 1 - A k 0) * A o 2 - A k 2 * (A o 1 - A k 0)).toInt = ztn A k o - (A k 2).toInt * zgp A k o ∧
    ((A o 1 - A o 0) * A k 2 - A o 2 * (A k 1 - A o 0)).toInt = (A o 2).toInt * zgp A k o - ztn A k o ∧
    ((A k 1 - A k 0) * A o 2 - A k 2 * (A o 1 - A o 0)).toInt = ztn A k o ∧
    ((A k 1 - A k 0) * (A o 1 - A o 0) + A k 2 * A o 2).toInt = zdt A k o ∧
    ((A k 2).toInt * zgp A k o).natAbs ≤ 2961 ∧ ((A o 2).toInt * zgp A k o).natAbs ≤ 2961 := by
  obtain ⟨b1, b2, b3, b4, b5⟩ := z_sz kk ko
  obtain ⟨k0, k1, k2⟩ := kk
  obtain ⟨o0, o1, o2⟩ := ko
  have p1 := zm_bound (a := (A k 1).toInt - (A k 0).toInt) (b := (A o 2).toInt) (m := 63) (n := 47) (by omega) (by omega)
  have p2 := zm_bound (a := (A k 2).toInt) (b := (A o 1).toInt - (A o 0).toInt) (m := 47) (n := 63) (by omega) (by omega)
  have p3 := zm_bound (a := (A k 1).toInt - (A k 0).toInt) (b := (A o 1).toInt - (A o 0).toInt) (m := 63) (n := 63) (by omega) (by omega)
  have p4 := zm_bound (a := (A k 2).toInt) (b := (A o 2).toInt) (m := 47) (n := 47) (by omega) (by omega)
  have p6 := zm_bound (a := (A k 2).toInt) (b := zgp A k o) (m := 47) (n := 63) (by omega) (by omega)
  have p7 := zm_bound (a := (A o 2).toInt) (b := zgp A k o) (m := 47) (n := 63) (by omega) (by omega)
  have p8 := zm_bound (a := (A k 2).toInt) (b := (A o 1).toInt - (A k 0).toInt) (m := 47) (n := 63) (by omega) (by omega)
  have p9 := zm_bound (a := (A o 2).toInt) (b := (A k 1).toInt - (A o 0).toInt) (m := 47) (n := 63) (by omega) (by omega)
  have p10 := zm_bound (a := (A o 1).toInt - (A o 0).toInt) (b := (A k 2).toInt) (m := 63) (n := 47) (by omega) (by omega)
  have euk : (A k 1 - A k 0).toInt = (A k 1).toInt - (A k 0).toInt := zt_sub rfl rfl (by omega) (by omega)
  have euo : (A o 1 - A o 0).toInt = (A o 1).toInt - (A o 0).toInt := zt_sub rfl rfl (by omega) (by omega)
  have eg : (A o 0 - A k 0).toInt = zgp A k o := zt_sub rfl rfl (by omega) (by omega)
  have eg' : (A k 0 - A o 0).toInt = -zgp A k o := by rw [zt_sub rfl rfl (by omega) (by omega)]; unfold zgp; omega
  have z0 : ∀ x : Int32, x * 0 = 0 := fun x => Int32.mul_zero
  refine ⟨?_, ?_, ?_, ?_, ?_, ?_, p6, p7⟩
  · rw [z0, zt_sub Int32_0 (zt_mul rfl eg (by omega) (by omega)) (by omega) (by omega)]; omega
  · have e : (A o 2 * (A k 0 - A o 0)).toInt = (A o 2).toInt * -zgp A k o := zt_mul rfl eg' (by rw [Int.mul_neg]; omega) (by rw [Int.mul_neg]; omega)
    rw [Int.mul_neg] at e
    rw [z0, zt_sub Int32_0 e (by omega) (by omega)]; omega
  · have e1 : (A o 1 - A k 0).toInt = (A o 1).toInt - (A k 0).toInt := zt_sub rfl rfl (by omega) (by omega)
    rw [zt_sub (zt_mul euk rfl (by omega) (by omega)) (zt_mul rfl e1 (by omega) (by omega)) (by omega) (by omega)]
    unfold ztn zgp
    have : (A k 2).toInt * ((A o 1).toInt - (A k 0).toInt) = (A k 2).toInt * ((A o 1).toInt - (A o 0).toInt) + (A k 2).toInt * ((A o 0).toInt - (A k 0).toInt) := by rw [← Int.mul_add]; congr 1; omega
    omega
  · have e1 : (A k 1 - A o 0).toInt = (A k 1).toInt - (A o 0).toInt := zt_sub rfl rfl (by omega) (by omega)
    rw [zt_sub (zt_mul euo rfl (by omega) (by omega)) (zt_mul rfl e1 (by omega) (by omega)) (by omega) (by omega)]
    unfold ztn zgp
    have h1 : (A o 2).toInt * ((A k 1).toInt - (A o 0).toInt) = (A o 2).toInt * ((A k 1).toInt - (A k 0).toInt) - (A o 2).toInt * ((A o 0).toInt - (A k 0).toInt) := by rw [← Int.mul_sub]; congr 1; omega
    have h2 := Int.mul_comm ((A o 1).toInt - (A o 0).toInt) (A k 2).toInt
    have h3 := Int.mul_comm ((A k 1).toInt - (A k 0).toInt) (A o 2).toInt
    omega
  · exact zt_sub (zt_mul euk rfl (by omega) (by omega)) (zt_mul rfl euo (by omega) (by omega)) (by omega) (by omega)
  · exact zt_add (zt_mul euk euo (by omega) (by omega)) (zt_mul rfl rfl (by omega) (by omega)) (by omega) (by omega)
theorem z_rx2 {A : zA} {k o : Nat} {r24 r28 r34 r40 : Int32} (kk : zkp A k) (ko : zkp A o) (h24 : r24.toInt = -((A k 2).toInt * zgp A k o)) (h28 : r28.toInt = (A o 2).toInt * zgp A k o) (h34 : r34.toInt = ztn A k o - (A k 2).toInt * zgp A k o) (h40 : r40.toInt = (A o 2).toInt * zgp A k o - ztn A k o) :
    (decide ((r24.toInt < 0 ∧ 0 < r34.toInt) ∨ (0 < r24.toInt ∧ r34.toInt < 0)) && decide ((r28.toInt < 0 ∧ 0 < r40.toInt) ∨ (0 < r28.toInt ∧ r40.toInt < 0))) = zcx A k o := by
  have hs := z_sides (g := zgp A k o) (t := ztn A k o) (a := (A k 2).toInt) (b := (A o 2).toInt) (by have := kk.2.2; omega) (by have := ko.2.2; omega)
  have hgo : zga A o k = (zgp A k o).natAbs * (A k 2).toInt.natAbs := by unfold zga; rw [zgp_sym (k := k) (o := o), Int.natAbs_neg]
  have hgk : zga A k o = (zgp A k o).natAbs * (A o 2).toInt.natAbs := rfl
  rw [← hgo, ← hgk] at hs
  unfold zcx
  rw [h24, h28, h34, h40, ← Bool.decide_and, ← Bool.decide_and, ← Bool.decide_and]
  exact decide_eq_decide.mpr hs
theorem z_rx3 {A : zA} {k o : Nat} {r24 r28 r34 r40 : Int32} (kk : zkp A k) (ko : zkp A o) (h24 : r24.toInt = -((A k 2).toInt * zgp A k o)) (h28 : r28.toInt = (A o 2).toInt * zgp A k o) (h34 : r34.toInt = ztn A k o - (A k 2).toInt * zgp A k o) (h40 : r40.toInt = (A o 2).toInt * zgp A k o - ztn A k o)
    (hp : ((A k 2).toInt * zgp A k o).natAbs ≤ 2961) (hq : ((A o 2).toInt * zgp A k o).natAbs ≤ 2961) (hc : zcx A k o = true) :
    zabs r28 = nI (zga A k o) ∧ zabs r24 = nI (zga A o k) ∧ zabs r28 + zabs r40 = nI (ztn A k o).natAbs ∧ zabs r24 + zabs r34 = nI (ztn A k o).natAbs ∧ 32 * zabs r28 / nI (ztn A k o).natAbs = nI (zpl A k o) ∧ 32 * zabs r24 / nI (ztn A k o).natAbs = nI (zpl A o k) ∧ ¬ nI (ztn A k o).natAbs = 0 := by
  have hx := z_rx2 kk ko h24 h28 h34 h40
  rw [hc, Bool.and_eq_true, decide_eq_true_eq, decide_eq_true_eq, h24, h28, h34, h40] at hx
  obtain ⟨hx1, hx2⟩ := hx
  obtain ⟨b1, b2, b3, b4, b5⟩ := z_sz kk ko
  simp only [zcx, Bool.and_eq_true, decide_eq_true_eq] at hc
  obtain ⟨s1, s2, s3⟩ := hc
  have q1 : ((A o 2).toInt * zgp A k o).natAbs = zga A k o := by rw [Int.natAbs_mul, Nat.mul_comm]; rfl
  have q2 : (-((A k 2).toInt * zgp A k o)).natAbs = zga A o k := by
    rw [Int.natAbs_neg, Int.natAbs_mul, Nat.mul_comm]; unfold zga; rw [zgp_sym (k := k) (o := o), Int.natAbs_neg]
  have q3 := z_q3 hx2
  have q4 := z_q4 hx1
  have a28 := zabs_nI h28 (by omega)
  have a40 := zabs_nI h40 (by omega)
  have a24 := zabs_nI h24 (by omega)
  have a34 := zabs_nI h34 (by omega)
  refine ⟨by rw [a28, q1], by rw [a24, q2], by rw [a28, a40, nI_add, q3], by rw [a24, a34, nI_add, q4], ?_, ?_, nI_ne0 (by omega) (by omega)⟩
  · rw [a28, q1, show (32 : Int32) = nI 32 from rfl, pk_mul, pk_div (by omega) (by omega) (by omega)]; rfl
  · rw [a24, q2, show (32 : Int32) = nI 32 from rfl, pk_mul, pk_div (by omega) (by omega) (by omega)]; unfold zpl; rw [ztn_sym (k := k) (o := o), Int.natAbs_neg]
theorem zcr_cx {A : zA} {k o : Nat} (hne : k ≠ o) : zcr A k o = (zfly A k && zfly A o && zcx A k o) := by
  unfold zcr zcx; simp [hne]
theorem e7_cross {M : zM} {k o : Nat} (hK : zKn (zrA (M 27 0)) ≤ 6) (kk : zkp (zrA (M 27 0)) k) (ko : zkp (zrA (M 27 0)) o) (hne : k ≠ o) (hk : k < zKn (zrA (M 27 0))) (ho : o < zKn (zrA (M 27 0))) : fX7_cross M (nI k) (nI o) =
    some (zb (zcr (zrA (M 27 0)) k o), if zcr (zrA (M 27 0)) k o then zw (zw (zw M 26 0 9 (nI (zpl (zrA (M 27 0)) k o))) 26 0 10 (nI (zpl (zrA (M 27 0)) o k))) 26 0 11 (zb (zst (zrA (M 27 0)) k o)) else M) := by
  have hk6 : k < 6 := by omega
  have ho6 : o < 6 := by omega
  have hfk := e7_fly hk hK
  have hfo := e7_fly ho hK
  have hr := z_rx kk ko
  unfold fX7_cross
  simp only [e7_p0 hk6, e7_p1 hk6, e7_p2 hk6, e7_p0 ho6, e7_p1 ho6, e7_p2 ho6, zC_some, e7_side hk6, e7_side ho6, hfk, hfo, e7_apart, e7_size, zb_0, zL_eq]
  rw [zcr_cx hne]
  cases f1 : zfly (zrA (M 27 0)) k
  · simp [zb]
  cases f2 : zfly (zrA (M 27 0)) o
  · simp [zb]
  simp only [Bool.true_eq_false, if_false, Bool.true_and]
  generalize hg24 : (zrA (M 27 0) k 1 - zrA (M 27 0) k 0) * 0 - zrA (M 27 0) k 2 * (zrA (M 27 0) o 0 - zrA (M 27 0) k 0) = r24 at *
  generalize hg28 : (zrA (M 27 0) o 1 - zrA (M 27 0) o 0) * 0 - zrA (M 27 0) o 2 * (zrA (M 27 0) k 0 - zrA (M 27 0) o 0) = r28 at *
  generalize hg34 : (zrA (M 27 0) k 1 - zrA (M 27 0) k 0) * zrA (M 27 0) o 2 - zrA (M 27 0) k 2 * (zrA (M 27 0) o 1 - zrA (M 27 0) k 0) = r34 at *
  generalize hg40 : (zrA (M 27 0) o 1 - zrA (M 27 0) o 0) * zrA (M 27 0) k 2 - zrA (M 27 0) o 2 * (zrA (M 27 0) k 1 - zrA (M 27 0) o 0) = r40 at *
  obtain ⟨h24, h28, h34, h40, ht, hd, hp, hq⟩ := hr
  have hx := z_rx2 kk ko h24 h28 h34 h40
  rw [← hx]
  cases c1 : decide ((r24.toInt < 0 ∧ 0 < r34.toInt) ∨ (0 < r24.toInt ∧ r34.toInt < 0))
  · simp [zb]
  cases c2 : decide ((r28.toInt < 0 ∧ 0 < r40.toInt) ∨ (0 < r28.toInt ∧ r40.toInt < 0))
  · simp [zb]
  rw [c1, c2] at hx
  obtain ⟨y1, y2, y3, y4, y5, y6, y7⟩ := z_rx3 kk ko h24 h28 h34 h40 hp hq hx.symm
  obtain ⟨b1, b2, b3, b4, b5⟩ := z_sz kk ko
  have at' := zabs_nI ht (by omega)
  have ad := zabs_nI hd (by omega)
  have q5 := zlt (a := (ztn (zrA (M 27 0)) k o).natAbs) (b := (zdt (zrA (M 27 0)) k o).natAbs) (by omega) (by omega)
  simp only [Bool.true_eq_false, if_false, Bool.and_self, if_true, y3, y4, zV_eq y7, y5, y6, at', ad, q5]
  by_cases c4 : (ztn (zrA (M 27 0)) k o).natAbs < (zdt (zrA (M 27 0)) k o).natAbs
  · rw [if_pos c4]; simp [zst, zb, show ¬ (zdt (zrA (M 27 0)) k o).natAbs ≤ (ztn (zrA (M 27 0)) k o).natAbs by omega]
  · rw [if_neg c4]; simp [zst, zb, show (zdt (zrA (M 27 0)) k o).natAbs ≤ (ztn (zrA (M 27 0)) k o).natAbs by omega]
