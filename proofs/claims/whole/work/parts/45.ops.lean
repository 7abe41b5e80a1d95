/-! ===== calls: crossing ===== -/
theorem zJ.ans7 {M N M' N' : zM} {σ : zSg} {x : Int32} {o7 : Option (Int32 × zM)} (h0 : zOK σ) (h1 : zCR M σ) (h2 : zRR N σ) (f1 : zgs M M') (a1 : zcA M' 0 = σ.1) (f2 : zgn N N') (a2 : zrA (N' 27 0) = σ.1) (h7 : o7 = some (x, N')) : zJ (some (x, M')) o7 M N := by
  rw [h7]; exact zJ.ans h0 h1 h2 f1 a1 f2 a2
def zxa (A : zA) (k o n : Nat) : Int32 := match n with
  | 0 => zb (zcr A k o)
  | 1 => if zcr A k o = true then nI (zpl A k o) else -6
  | 2 => if zcr A k o = true then nI (zpl A o k) else -6
  | 3 => if zcr A k o = true then zb (zst A k o) else -6
  | 4 => zsl A k o
  | _ => if zcr A k o = true then zrb A k o else 0
theorem e6_abx {M : zM} {A : zA} {k o n : Nat} (hA : zcA M 0 = A) (hw : zwv M 0 A (znt A)) (hz : zok A) (hkK : k < zKn A) (hoK : o < zKn A) (hn : n ≤ 5) : fX6_aboutCrossing M (nI k) (nI o) (nI n) = some (zxa A k o n, M) := by
  have hK := hz.2.1
  have hk : k < 6 := by omega
  have ho : o < 6 := by omega
  have hk' : zhk (zcA M 0) k := by rw [hA]; exact hz.hk hkK
  have ho' : zhk (zcA M 0) o := by rw [hA]; exact hz.hk hoK
  have hL : ∀ q, q ∈ znt A → q.1 < 6 ∧ q.2 < 6 := fun q hq => znt_6 hK hq
  have hko : (k, o) ∈ znt A ↔ zcr A k o = true := znt_mem hK
  have hok : (o, k) ∈ znt A ↔ zcr A k o = true := by rw [znt_mem hK]; show zcr A o k = true ↔ _; rw [zcr_sym]
  unfold fX6_aboutCrossing
  simp only [e5_cross hk ho hw hL hko, zC_some, e5_placeOn hk ho hw hL hko, e5_placeOn ho hk hw hL hok, e5_isSteep hk ho hw hL hko, e2_sliding hk ho, e2_rub hk' ho', hA]
  obtain rfl | rfl | rfl | rfl | rfl | rfl : n = 0 ∨ n = 1 ∨ n = 2 ∨ n = 3 ∨ n = 4 ∨ n = 5 := by omega
  · simp only [eq_true (show nI 0 = (0 : Int32) from rfl), if_false, if_true, zxa]
    cases hc : zcr A k o <;> simp [zb]
  · simp only [eq_false (show ¬ nI 1 = (0 : Int32) by decide), eq_true (show nI 1 = (1 : Int32) from rfl), if_false, if_true, zxa]
  · simp only [eq_false (show ¬ nI 2 = (0 : Int32) by decide), eq_false (show ¬ nI 2 = (1 : Int32) by decide), eq_true (show nI 2 = (2 : Int32) from rfl), if_false, if_true, zxa]
  · simp only [eq_false (show ¬ nI 3 = (0 : Int32) by decide), eq_false (show ¬ nI 3 = (1 : Int32) by decide), eq_false (show ¬ nI 3 = (2 : Int32) by decide), eq_true (show nI 3 = (3 : Int32) from rfl), if_false, if_true, zxa]
    cases hc : zcr A k o <;> cases hs : zst A k o <;> simp [zb]
  · simp only [eq_false (show ¬ nI 4 = (0 : Int32) by decide), eq_false (show ¬ nI 4 = (1 : Int32) by decide), eq_false (show ¬ nI 4 = (2 : Int32) by decide), eq_false (show ¬ nI 4 = (3 : Int32) by decide), eq_true (show nI 4 = (4 : Int32) from rfl), if_false, if_true, zxa]
  · simp only [eq_false (show ¬ nI 5 = (0 : Int32) by decide), eq_false (show ¬ nI 5 = (1 : Int32) by decide), eq_false (show ¬ nI 5 = (2 : Int32) by decide), eq_false (show ¬ nI 5 = (3 : Int32) by decide), eq_false (show ¬ nI 5 = (4 : Int32) by decide), if_false, if_true, zxa, zrb]
    cases hc : zcr A k o <;> cases hs : zst A k o <;> simp [zb]
theorem zN_ok {σ : zSg} (h : zOK σ) : zKn σ.1 ≤ 6 := h.1.2.1
theorem j_crossing {M N : zM} {σ : zSg} {v1 v2 v3 : Int32} (h0 : zOK σ) (h1 : zCR M σ) (h2 : zRR N σ) : zJ (fX6_crossing M v1 v2 v3) (fX7_crossing N v1 v2 v3) M N := by
  unfold fX6_crossing fX7_crossing
  rw [gH h0 h1, gK h0 h2, zC_some, zC_some]
  refine zJ.gd h0 h1 h2 fun hw => ?_
  obtain ⟨k, hk, hk6, rfl⟩ := zhas_nI hw h0.1.2.1
  rw [gH h0 h1, gK h0 h2, zC_some, zC_some]
  refine zJ.gd h0 h1 h2 fun hw2 => ?_
  obtain ⟨o, ho, ho6, rfl⟩ := zhas_nI hw2 h0.1.2.1
  by_cases hne : k = o
  · rw [if_pos (by rw [hne]), if_pos (by rw [hne])]; exact zJ.ret h0 h1 h2
  have hne' : ¬ nI k = nI o := by rw [zeq (by omega) (by omega)]; exact hne
  rw [if_neg hne', if_neg hne', e2_within, e7_within, zC_some, zC_some]
  refine zJ.gd h0 h1 h2 fun hp => ?_
  obtain ⟨n, rfl, _, _, hn⟩ := zwin_n hp (by decide)
  have hn5 : n ≤ 5 := by have : (5 : Int32).toInt = 5 := rfl; omega
  rw [gF h0 h1 hk6, gG h0 h2 hk, zC_some, zC_some]
  refine zJ.gd h0 h1 h2 fun _ => ?_
  rw [gF h0 h1 ho6, gG h0 h2 ho, zC_some, zC_some]
  refine zJ.gd h0 h1 h2 fun _ => ?_
  obtain ⟨M1, m1, m2, m3⟩ := e5_measure (M := M) (w := 0) (j := 0) (by rw [h1.1]; exact h0.1)
  have a1 : zcA M1 0 = σ.1 := m3.cA.trans h1.1
  rw [h1.1] at m2
  rw [m1, zC_some, e6_abx a1 m2 h0.1 hk ho hn5, zC_some]
  have e7 := e7_cross (M := N) (k := k) (o := o) (by rw [h2.1]; exact zN_ok h0) (by rw [h2.1]; exact (h0.1.2.2 k hk).kp) (by rw [h2.1]; exact (h0.1.2.2 o ho).kp) hne (by rw [h2.1]; exact hk) (by rw [h2.1]; exact ho)
  rw [h2.1] at e7
  rw [e7, zC_some]
  cases hc : zcr σ.1 k o with
  | false =>
    refine zJ.ans7 (N' := N) h0 h1 h2 m3.gs a1 zgn.refl h2.1 ?_
    simp only [if_neg (show ¬ false = true by decide), show zb false = 0 from rfl, if_true, e7_sliding hk6 ho6, zC_some, h2.1]
    obtain rfl | rfl | rfl | rfl | rfl | rfl : n = 0 ∨ n = 1 ∨ n = 2 ∨ n = 3 ∨ n = 4 ∨ n = 5 := by omega
    · simp only [eq_true (show nI 0 = (0 : Int32) from rfl), if_false, if_true, zxa, hc]; rfl
    · simp only [eq_false (show ¬ nI 1 = (0 : Int32) by decide), eq_true (show nI 1 = (1 : Int32) from rfl), if_false, if_true, zxa, hc]; rfl
    · simp only [eq_false (show ¬ nI 2 = (0 : Int32) by decide), eq_false (show ¬ nI 2 = (1 : Int32) by decide), eq_true (show nI 2 = (2 : Int32) from rfl), if_false, if_true, zxa, hc]; rfl
    · simp only [eq_false (show ¬ nI 3 = (0 : Int32) by decide), eq_false (show ¬ nI 3 = (1 : Int32) by decide), eq_false (show ¬ nI 3 = (2 : Int32) by decide), eq_true (show nI 3 = (3 : Int32) from rfl), if_false, if_true, zxa, hc]; rfl
    · simp only [eq_false (show ¬ nI 4 = (0 : Int32) by decide), eq_false (show ¬ nI 4 = (1 : Int32) by decide), eq_false (show ¬ nI 4 = (2 : Int32) by decide), eq_false (show ¬ nI 4 = (3 : Int32) by decide), eq_true (show nI 4 = (4 : Int32) from rfl), if_false, if_true, zxa]
    · simp only [eq_false (show ¬ nI 5 = (0 : Int32) by decide), eq_false (show ¬ nI 5 = (1 : Int32) by decide), eq_false (show ¬ nI 5 = (2 : Int32) by decide), eq_false (show ¬ nI 5 = (3 : Int32) by decide), eq_false (show ¬ nI 5 = (4 : Int32) by decide), if_false, if_true, zxa, hc]; rfl
  | true =>
    rw [if_pos rfl]
    have hz : ∃ N1, N1 = zw (zw (zw N 26 0 9 (nI (zpl σ.1 k o))) 26 0 10 (nI (zpl σ.1 o k))) 26 0 11 (zb (zst σ.1 k o)) := ⟨_, rfl⟩
    obtain ⟨N1, hN1⟩ := hz
    rw [← hN1]
    have r9 : N1 26 0 9 = nI (zpl σ.1 k o) := by rw [hN1, zw_at]; unfold upd; rw [if_neg (by decide), zw_at]; unfold upd; rw [if_neg (by decide), zw_at]; unfold upd; rw [if_pos rfl]
    have r10 : N1 26 0 10 = nI (zpl σ.1 o k) := by rw [hN1, zw_at]; unfold upd; rw [if_neg (by decide), zw_at]; unfold upd; rw [if_pos rfl]
    have r11 : N1 26 0 11 = zb (zst σ.1 k o) := by rw [hN1, zw_at]; unfold upd; rw [if_pos rfl]
    have fN : zgn N N1 := by rw [hN1]; exact ((zgn.w26 (by omega)).trans (zgn.w26 (by omega))).trans (zgn.w26 (by omega))
    have aN : zrA (N1 27 0) = σ.1 := by rw [hN1, zw_ne (by omega), zw_ne (by omega), zw_ne (by omega)]; exact h2.1
    refine zJ.ans7 (N' := N1) h0 h1 h2 m3.gs a1 fN aN ?_
    simp only [show zb true = 1 from rfl, eq_false (show ¬ (1 : Int32) = 0 by decide), if_false, e7_sliding hk6 ho6, e7_more hk6 ho6 r11, zC_some, aN, r9, r10, r11]
    obtain rfl | rfl | rfl | rfl | rfl | rfl : n = 0 ∨ n = 1 ∨ n = 2 ∨ n = 3 ∨ n = 4 ∨ n = 5 := by omega
    · simp only [eq_true (show nI 0 = (0 : Int32) from rfl), if_false, if_true, zxa, hc]; rfl
    · simp only [eq_false (show ¬ nI 1 = (0 : Int32) by decide), eq_true (show nI 1 = (1 : Int32) from rfl), if_false, if_true, zxa, hc]
    · simp only [eq_false (show ¬ nI 2 = (0 : Int32) by decide), eq_false (show ¬ nI 2 = (1 : Int32) by decide), eq_true (show nI 2 = (2 : Int32) from rfl), if_false, if_true, zxa, hc]
    · simp only [eq_false (show ¬ nI 3 = (0 : Int32) by decide), eq_false (show ¬ nI 3 = (1 : Int32) by decide), eq_false (show ¬ nI 3 = (2 : Int32) by decide), eq_true (show nI 3 = (3 : Int32) from rfl), if_false, if_true, zxa, hc]
      cases hs : zst σ.1 k o <;> simp [zb]
    · simp only [eq_false (show ¬ nI 4 = (0 : Int32) by decide), eq_false (show ¬ nI 4 = (1 : Int32) by decide), eq_false (show ¬ nI 4 = (2 : Int32) by decide), eq_false (show ¬ nI 4 = (3 : Int32) by decide), eq_true (show nI 4 = (4 : Int32) from rfl), if_false, if_true, zxa]
    · simp only [eq_false (show ¬ nI 5 = (0 : Int32) by decide), eq_false (show ¬ nI 5 = (1 : Int32) by decide), eq_false (show ¬ nI 5 = (2 : Int32) by decide), eq_false (show ¬ nI 5 = (3 : Int32) by decide), eq_false (show ¬ nI 5 = (4 : Int32) by decide), if_false, if_true, zxa, hc, zrb]
