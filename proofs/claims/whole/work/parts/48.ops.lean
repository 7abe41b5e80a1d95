/-! ===== calls: count, kite ===== -/
theorem zf26.gn {M M' : zM} (h : zf26 M M') : zgn M M' := h.f7.gn
theorem zf26.A {M M' : zM} (h : zf26 M M') : zrA (M' 27 0) = zrA (M 27 0) := by rw [h.1 27 0 (by omega)]
theorem rsp {N : zM} {A : zA} {p : Nat} (h : zrA (N 27 0) = A) (hp : p < 4) : N 27 0 p = A 6 p := by rw [← h]; exact zrs (f := N 27 0) hp
theorem j_count {M N : zM} {σ : zSg} {v : Int32} (h0 : zOK σ) (h1 : zCR M σ) (h2 : zRR N σ) : zJ (fX6_count M v) (fX7_count N v) M N := by
  have hK := h0.1.2.1
  unfold fX6_count fX7_count
  by_cases q0 : v = 0
  · rw [if_pos q0, if_pos q0]
    rw [c60 h1, zI_eq (by decide), r60 h2.1]; exact zJ.ret h0 h1 h2
  rw [if_neg q0, if_neg q0]
  by_cases q1 : v = 1
  · rw [if_pos q1, if_pos q1]
    rw [e2_air h0.1 h1.1, e7_air h0.1 h2.1, zC_some, zC_some]; exact zJ.ret h0 h1 h2
  rw [if_neg q1, if_neg q1]
  by_cases q2 : v = 2
  · rw [if_pos q2, if_pos q2]
    obtain ⟨M1, m1, m2, m3⟩ := e5_measure (M := M) (w := 0) (j := 0) (by rw [h1.1]; exact h0.1)
    rw [h1.1] at m2
    obtain ⟨N1, e, f⟩ := e7_many h0.1 h2.1
    rw [m1, zC_some, e5_crossings m2, zC_some, e, zC_some]
    exact zJ.ans h0 h1 h2 m3.gs (m3.cA.trans h1.1) f.gn (f.A.trans h2.1)
  rw [if_neg q2, if_neg q2]
  by_cases q3 : v = 3
  · rw [if_pos q3, if_pos q3]
    rw [show M 1 0 1 = σ.1 6 2 from congrFun (congrFun h1.1 6) 2, zI_eq (by decide), show zN 2 = 2 from rfl, rsp h2.1 (p := 2) (by omega)]; exact zJ.ret h0 h1 h2
  rw [if_neg q3, if_neg q3]
  by_cases q4 : v = 4
  · rw [if_pos q4, if_pos q4]
    rw [show M 1 0 2 = σ.1 6 1 from congrFun (congrFun h1.1 6) 1, zI_eq (by decide), show zN 1 = 1 from rfl, rsp h2.1 (p := 1) (by omega)]; exact zJ.ret h0 h1 h2
  rw [if_neg q4, if_neg q4]
  by_cases q5 : v = 5
  · rw [if_pos q5, if_pos q5]
    rw [e2_lead h0.1 h1.1, e7_lead h0.1 h2.1, zC_some, zC_some]; exact zJ.ret h0 h1 h2
  rw [if_neg q5, if_neg q5]
  by_cases q6 : v = 6
  · rw [if_pos q6, if_pos q6]
    rw [e2_pts h0.1 h1.1, e7_pts h0.1 h2.1, zC_some, zC_some]; exact zJ.ret h0 h1 h2
  rw [if_neg q6, if_neg q6]
  by_cases q7 : v = 7
  · rw [if_pos q7, if_pos q7]
    rw [show M 1 0 3 = σ.1 6 3 from congrFun (congrFun h1.1 6) 3, zI_eq (by decide), show zN 3 = 3 from rfl, rsp h2.1 (p := 3) (by omega)]; exact zJ.ret h0 h1 h2
  rw [if_neg q7, if_neg q7]
  by_cases q8 : v = 8
  · rw [if_pos q8, if_pos q8]
    rw [h1.2.2.2.2.1, h2.2.2.2.2.1]; exact zJ.ret h0 h1 h2
  rw [if_neg q8, if_neg q8]
  by_cases q9 : v = 9
  · rw [if_pos q9, if_pos q9]
    rw [h1.2.2.1, h2.2.1]; exact zJ.ret h0 h1 h2
  rw [if_neg q9, if_neg q9]
  exact zJ.ret h0 h1 h2
def zka (A : zA) (k n : Nat) : Int32 := match n with
  | 0 => A k 0
  | 1 => A k 1
  | 2 => A k 2
  | 3 => A k 3 + 10
  | 4 => A k 4 + 10
  | 5 => A k 5
  | 6 => A k 6
  | 7 => A k 7
  | 8 => A k 8
  | 9 => if zfly A k = true then zgw A k else 0
  | 10 => if zfly A k = true then nI (zmw A k) else 0
  | _ => if zfly A k = true then zmk (fun o => zcr A k o) else 0
theorem e6_kite {M : zM} {σ : zSg} {k n : Nat} (h0 : zOK σ) (h1 : zCR M σ) (hk : k < zKn σ.1) (hn : n ≤ 11) : ∃ M', (if 9 ≤ nI n then (zC (fX6_aboutString M (nI k) (nI n)) fun r26 M25 => some (r26, M25)) else (zC (fX6_aboutKite M (nI k) (nI n)) fun r28 M27 => some (r28, M27))) = some (zka σ.1 k n, M') ∧ zfw 0 M M' := by
  have hK := h0.1.2.1
  have hk6 : k < 6 := by omega
  have hf := gF h0 h1 hk6
  by_cases h9 : 9 ≤ n
  · have h9' : (9 : Int32) ≤ nI n := by rw [show (9 : Int32) = nI 9 from rfl, zle (by omega) (by omega)]; exact h9
    rw [if_pos h9']
    unfold fX6_aboutString
    rw [hf, zC_some]
    cases hq : zfly σ.1 k with
    | false =>
      rw [if_pos (show zb false = 0 from rfl), zC_some]
      refine ⟨M, ?_, zfw.refl⟩
      obtain rfl | rfl | rfl : n = 9 ∨ n = 10 ∨ n = 11 := by omega
      · simp only [zka, hq]; rfl
      · simp only [zka, hq]; rfl
      · simp only [zka, hq]; rfl
    | true =>
      rw [if_neg (show ¬ zb true = 0 by decide), e2_most (h1.hk h0 hk), zC_some, h1.1]
      have hgw := zgw_mw (A := σ.1) (k := k) (fun q hq => by
        obtain ⟨_, _, _, _, _, _, _, _, _, _, _, a12, _⟩ := h0.1.2.2 k hk
        exact (a12 q hq).1)
      obtain rfl | rfl | rfl : n = 9 ∨ n = 10 ∨ n = 11 := by omega
      · refine ⟨M, ?_, zfw.refl⟩
        simp only [eq_true (show nI 9 = (9 : Int32) from rfl), if_false, if_true, e2_wearAt (h1.hk h0 hk) (zmw_spec (A := σ.1) (k := k)).1, zC_some, zka, hq, h1.1, hgw]
      · refine ⟨M, ?_, zfw.refl⟩
        simp only [eq_false (show ¬ nI 10 = (9 : Int32) by decide), eq_true (show nI 10 = (10 : Int32) from rfl), if_false, if_true, zC_some, zka, hq]
      · obtain ⟨M1, m1, m2, m3⟩ := e5_measure (M := M) (w := 0) (j := 0) (by rw [h1.1]; exact h0.1)
        rw [h1.1] at m2
        refine ⟨M1, ?_, m3⟩
        simp only [eq_false (show ¬ nI 11 = (9 : Int32) by decide), eq_false (show ¬ nI 11 = (10 : Int32) by decide), if_false, if_true, m1, zC_some, e5_ones hk6 m2 hK, zka, hq]
  · have h9' : ¬ (9 : Int32) ≤ nI n := by rw [show (9 : Int32) = nI 9 from rfl, zle (by omega) (by omega)]; exact h9
    rw [if_neg h9']
    refine ⟨M, ?_, zfw.refl⟩
    unfold fX6_aboutKite
    simp only [zI_eq (zix_nI hk6 (show 6 < 2 ^ 31 by omega)), zN_nI (show k < 2 ^ 31 by omega), zr0 (M := M) hk6, zr1 (M := M) hk6, zr2 (M := M) hk6, zr3 (M := M) hk6, zr4 (M := M) hk6, zr5 (M := M) hk6, zr6 (M := M) hk6, zr7 (M := M) hk6, zr8 (M := M) hk6, h1.1]
    obtain rfl | rfl | rfl | rfl | rfl | rfl | rfl | rfl | rfl : n = 0 ∨ n = 1 ∨ n = 2 ∨ n = 3 ∨ n = 4 ∨ n = 5 ∨ n = 6 ∨ n = 7 ∨ n = 8 := by omega
    · simp only [eq_true (show nI 0 = (0 : Int32) from rfl), if_false, if_true, zC_some, zka]
    · simp only [eq_false (show ¬ nI 1 = (0 : Int32) by decide), eq_true (show nI 1 = (1 : Int32) from rfl), if_false, if_true, zC_some, zka]
    · simp only [eq_false (show ¬ nI 2 = (0 : Int32) by decide), eq_false (show ¬ nI 2 = (1 : Int32) by decide), eq_true (show nI 2 = (2 : Int32) from rfl), if_false, if_true, zC_some, zka]
    · simp only [eq_false (show ¬ nI 3 = (0 : Int32) by decide), eq_false (show ¬ nI 3 = (1 : Int32) by decide), eq_false (show ¬ nI 3 = (2 : Int32) by decide), eq_true (show nI 3 = (3 : Int32) from rfl), if_false, if_true, zC_some, zka]
    · simp only [eq_false (show ¬ nI 4 = (0 : Int32) by decide), eq_false (show ¬ nI 4 = (1 : Int32) by decide), eq_false (show ¬ nI 4 = (2 : Int32) by decide), eq_false (show ¬ nI 4 = (3 : Int32) by decide), eq_true (show nI 4 = (4 : Int32) from rfl), if_false, if_true, zC_some, zka]
    · simp only [eq_false (show ¬ nI 5 = (0 : Int32) by decide), eq_false (show ¬ nI 5 = (1 : Int32) by decide), eq_false (show ¬ nI 5 = (2 : Int32) by decide), eq_false (show ¬ nI 5 = (3 : Int32) by decide), eq_false (show ¬ nI 5 = (4 : Int32) by decide), eq_true (show nI 5 = (5 : Int32) from rfl), if_false, if_true, zC_some, zka]
    · simp only [eq_false (show ¬ nI 6 = (0 : Int32) by decide), eq_false (show ¬ nI 6 = (1 : Int32) by decide), eq_false (show ¬ nI 6 = (2 : Int32) by decide), eq_false (show ¬ nI 6 = (3 : Int32) by decide), eq_false (show ¬ nI 6 = (4 : Int32) by decide), eq_false (show ¬ nI 6 = (5 : Int32) by decide), eq_true (show nI 6 = (6 : Int32) from rfl), if_false, if_true, zC_some, zka]
    · simp only [eq_false (show ¬ nI 7 = (0 : Int32) by decide), eq_false (show ¬ nI 7 = (1 : Int32) by decide), eq_false (show ¬ nI 7 = (2 : Int32) by decide), eq_false (show ¬ nI 7 = (3 : Int32) by decide), eq_false (show ¬ nI 7 = (4 : Int32) by decide), eq_false (show ¬ nI 7 = (5 : Int32) by decide), eq_false (show ¬ nI 7 = (6 : Int32) by decide), eq_true (show nI 7 = (7 : Int32) from rfl), if_false, if_true, zC_some, zka]
    · simp only [eq_false (show ¬ nI 8 = (0 : Int32) by decide), eq_false (show ¬ nI 8 = (1 : Int32) by decide), eq_false (show ¬ nI 8 = (2 : Int32) by decide), eq_false (show ¬ nI 8 = (3 : Int32) by decide), eq_false (show ¬ nI 8 = (4 : Int32) by decide), eq_false (show ¬ nI 8 = (5 : Int32) by decide), eq_false (show ¬ nI 8 = (6 : Int32) by decide), eq_false (show ¬ nI 8 = (7 : Int32) by decide), if_false, if_true, zC_some, zka]
theorem j_kite {M N : zM} {σ : zSg} {v1 v2 : Int32} (h0 : zOK σ) (h1 : zCR M σ) (h2 : zRR N σ) : zJ (fX6_kite M v1 v2) (fX7_kite N v1 v2) M N := by
  have hK := h0.1.2.1
  unfold fX6_kite fX7_kite
  rw [gH h0 h1, gK h0 h2, zC_some, zC_some]
  refine zJ.gd h0 h1 h2 fun hw => ?_
  obtain ⟨k, hk, hk6, rfl⟩ := zhas_nI hw h0.1.2.1
  rw [e2_within, zC_some]
  cases hp : zwin v2 (0 : Int32).toInt (11 : Int32).toInt with
  | false =>
    have hh : ∀ i : Nat, i ≤ 11 → ¬ v2 = nI i := fun i hi e => by
      rw [e] at hp
      unfold zwin at hp
      rw [nI_toInt (by omega), show (0 : Int32).toInt = 0 from rfl, show (11 : Int32).toInt = 11 from rfl] at hp
      simp only [Bool.and_eq_false_iff, decide_eq_false_iff_not] at hp
      omega
    rw [if_pos (show zb false = 0 from rfl), if_neg (show ¬ v2 = 0 from hh 0 (by omega)), if_neg (show ¬ v2 = 1 from hh 1 (by omega)), if_neg (show ¬ v2 = 2 from hh 2 (by omega)), if_neg (show ¬ v2 = 3 from hh 3 (by omega)), if_neg (show ¬ v2 = 4 from hh 4 (by omega)), if_neg (show ¬ v2 = 5 from hh 5 (by omega)), if_neg (show ¬ v2 = 6 from hh 6 (by omega)), if_neg (show ¬ v2 = 7 from hh 7 (by omega)), if_neg (show ¬ v2 = 8 from hh 8 (by omega)), if_neg (show ¬ v2 = 9 from hh 9 (by omega)), if_neg (show ¬ v2 = 10 from hh 10 (by omega)), if_neg (show ¬ v2 = 11 from hh 11 (by omega))]
    exact zJ.ret h0 h1 h2
  | true =>
    obtain ⟨n, rfl, _, _, hn⟩ := zwin_n hp (by decide)
    have hn11 : n ≤ 11 := by have : (11 : Int32).toInt = 11 := rfl; omega
    rw [if_neg (show ¬ zb true = 0 by decide)]
    obtain ⟨M1, m1, m3⟩ := e6_kite h0 h1 hk hn11
    rw [m1]
    have hg := gG h0 h2 hk
    obtain ⟨N1, e1, f1⟩ := e7_ones h0.1 hk h2.1
    have hz := h0.1.2.2 k hk
    have hpl := e7_place (N := N) hk6 (by rw [h2.1]; exact hz)
    have hgr := e7_great (M := N) hk6
    rw [h2.1] at hpl hgr
    suffices h : ∃ N', _ = some (zka σ.1 k n, N') ∧ zf26 N N' by
      obtain ⟨N', e, f⟩ := h
      exact zJ.ans7 h0 h1 h2 m3.gs (m3.cA.trans h1.1) f.gn (f.A.trans h2.1) e
    obtain rfl | rfl | rfl | rfl | rfl | rfl | rfl | rfl | rfl | rfl | rfl | rfl : n = 0 ∨ n = 1 ∨ n = 2 ∨ n = 3 ∨ n = 4 ∨ n = 5 ∨ n = 6 ∨ n = 7 ∨ n = 8 ∨ n = 9 ∨ n = 10 ∨ n = 11 := by omega
    · exact ⟨N, by simp only [eq_true (show nI 0 = (0 : Int32) from rfl), if_false, if_true, e7_part hk6 (show 0 < 44 by omega), zC_some, zka, h2.1], zf26.refl⟩
    · exact ⟨N, by simp only [eq_false (show ¬ nI 1 = (0 : Int32) by decide), eq_true (show nI 1 = (1 : Int32) from rfl), if_false, if_true, e7_part hk6 (show 1 < 44 by omega), zC_some, zka, h2.1], zf26.refl⟩
    · exact ⟨N, by simp only [eq_false (show ¬ nI 2 = (0 : Int32) by decide), eq_false (show ¬ nI 2 = (1 : Int32) by decide), eq_true (show nI 2 = (2 : Int32) from rfl), if_false, if_true, e7_part hk6 (show 2 < 44 by omega), zC_some, zka, h2.1], zf26.refl⟩
    · exact ⟨N, by simp only [eq_false (show ¬ nI 3 = (0 : Int32) by decide), eq_false (show ¬ nI 3 = (1 : Int32) by decide), eq_false (show ¬ nI 3 = (2 : Int32) by decide), eq_true (show nI 3 = (3 : Int32) from rfl), if_false, if_true, e7_part hk6 (show 3 < 44 by omega), zC_some, zka, h2.1], zf26.refl⟩
    · exact ⟨N, by simp only [eq_false (show ¬ nI 4 = (0 : Int32) by decide), eq_false (show ¬ nI 4 = (1 : Int32) by decide), eq_false (show ¬ nI 4 = (2 : Int32) by decide), eq_false (show ¬ nI 4 = (3 : Int32) by decide), eq_true (show nI 4 = (4 : Int32) from rfl), if_false, if_true, e7_part hk6 (show 4 < 44 by omega), zC_some, zka, h2.1], zf26.refl⟩
    · exact ⟨N, by simp only [eq_false (show ¬ nI 5 = (0 : Int32) by decide), eq_false (show ¬ nI 5 = (1 : Int32) by decide), eq_false (show ¬ nI 5 = (2 : Int32) by decide), eq_false (show ¬ nI 5 = (3 : Int32) by decide), eq_false (show ¬ nI 5 = (4 : Int32) by decide), eq_true (show nI 5 = (5 : Int32) from rfl), if_false, if_true, e7_part hk6 (show 5 < 44 by omega), zC_some, zka, h2.1], zf26.refl⟩
    · exact ⟨N, by simp only [eq_false (show ¬ nI 6 = (0 : Int32) by decide), eq_false (show ¬ nI 6 = (1 : Int32) by decide), eq_false (show ¬ nI 6 = (2 : Int32) by decide), eq_false (show ¬ nI 6 = (3 : Int32) by decide), eq_false (show ¬ nI 6 = (4 : Int32) by decide), eq_false (show ¬ nI 6 = (5 : Int32) by decide), eq_true (show nI 6 = (6 : Int32) from rfl), if_false, if_true, e7_part hk6 (show 6 < 44 by omega), zC_some, zka, h2.1], zf26.refl⟩
    · exact ⟨N, by simp only [eq_false (show ¬ nI 7 = (0 : Int32) by decide), eq_false (show ¬ nI 7 = (1 : Int32) by decide), eq_false (show ¬ nI 7 = (2 : Int32) by decide), eq_false (show ¬ nI 7 = (3 : Int32) by decide), eq_false (show ¬ nI 7 = (4 : Int32) by decide), eq_false (show ¬ nI 7 = (5 : Int32) by decide), eq_false (show ¬ nI 7 = (6 : Int32) by decide), eq_true (show nI 7 = (7 : Int32) from rfl), if_false, if_true, e7_part hk6 (show 7 < 44 by omega), zC_some, zka, h2.1], zf26.refl⟩
    · exact ⟨N, by simp only [eq_false (show ¬ nI 8 = (0 : Int32) by decide), eq_false (show ¬ nI 8 = (1 : Int32) by decide), eq_false (show ¬ nI 8 = (2 : Int32) by decide), eq_false (show ¬ nI 8 = (3 : Int32) by decide), eq_false (show ¬ nI 8 = (4 : Int32) by decide), eq_false (show ¬ nI 8 = (5 : Int32) by decide), eq_false (show ¬ nI 8 = (6 : Int32) by decide), eq_false (show ¬ nI 8 = (7 : Int32) by decide), eq_true (show nI 8 = (8 : Int32) from rfl), if_false, if_true, e7_part hk6 (show 8 < 44 by omega), zC_some, zka, h2.1], zf26.refl⟩
    · cases hq : zfly σ.1 k with
      | false => exact ⟨N, by simp only [eq_false (show ¬ nI 9 = (0 : Int32) by decide), eq_false (show ¬ nI 9 = (1 : Int32) by decide), eq_false (show ¬ nI 9 = (2 : Int32) by decide), eq_false (show ¬ nI 9 = (3 : Int32) by decide), eq_false (show ¬ nI 9 = (4 : Int32) by decide), eq_false (show ¬ nI 9 = (5 : Int32) by decide), eq_false (show ¬ nI 9 = (6 : Int32) by decide), eq_false (show ¬ nI 9 = (7 : Int32) by decide), eq_false (show ¬ nI 9 = (8 : Int32) by decide), eq_true (show nI 9 = (9 : Int32) from rfl), if_false, if_true, hg, hq, zC_some, zka]; rfl, zf26.refl⟩
      | true => exact ⟨N, by simp only [eq_false (show ¬ nI 9 = (0 : Int32) by decide), eq_false (show ¬ nI 9 = (1 : Int32) by decide), eq_false (show ¬ nI 9 = (2 : Int32) by decide), eq_false (show ¬ nI 9 = (3 : Int32) by decide), eq_false (show ¬ nI 9 = (4 : Int32) by decide), eq_false (show ¬ nI 9 = (5 : Int32) by decide), eq_false (show ¬ nI 9 = (6 : Int32) by decide), eq_false (show ¬ nI 9 = (7 : Int32) by decide), eq_false (show ¬ nI 9 = (8 : Int32) by decide), eq_true (show nI 9 = (9 : Int32) from rfl), if_false, if_true, hg, hq, zC_some, zka, hgr]; rfl, zf26.refl⟩
    · cases hq : zfly σ.1 k with
      | false => exact ⟨N, by simp only [eq_false (show ¬ nI 10 = (0 : Int32) by decide), eq_false (show ¬ nI 10 = (1 : Int32) by decide), eq_false (show ¬ nI 10 = (2 : Int32) by decide), eq_false (show ¬ nI 10 = (3 : Int32) by decide), eq_false (show ¬ nI 10 = (4 : Int32) by decide), eq_false (show ¬ nI 10 = (5 : Int32) by decide), eq_false (show ¬ nI 10 = (6 : Int32) by decide), eq_false (show ¬ nI 10 = (7 : Int32) by decide), eq_false (show ¬ nI 10 = (8 : Int32) by decide), eq_false (show ¬ nI 10 = (9 : Int32) by decide), eq_true (show nI 10 = (10 : Int32) from rfl), if_false, if_true, hg, hq, zC_some, zka]; rfl, zf26.refl⟩
      | true => exact ⟨N, by simp only [eq_false (show ¬ nI 10 = (0 : Int32) by decide), eq_false (show ¬ nI 10 = (1 : Int32) by decide), eq_false (show ¬ nI 10 = (2 : Int32) by decide), eq_false (show ¬ nI 10 = (3 : Int32) by decide), eq_false (show ¬ nI 10 = (4 : Int32) by decide), eq_false (show ¬ nI 10 = (5 : Int32) by decide), eq_false (show ¬ nI 10 = (6 : Int32) by decide), eq_false (show ¬ nI 10 = (7 : Int32) by decide), eq_false (show ¬ nI 10 = (8 : Int32) by decide), eq_false (show ¬ nI 10 = (9 : Int32) by decide), eq_true (show nI 10 = (10 : Int32) from rfl), if_false, if_true, hg, hq, zC_some, zka, hpl]; rfl, zf26.refl⟩
    · cases hq : zfly σ.1 k with
      | false => exact ⟨N, by simp only [eq_false (show ¬ nI 11 = (0 : Int32) by decide), eq_false (show ¬ nI 11 = (1 : Int32) by decide), eq_false (show ¬ nI 11 = (2 : Int32) by decide), eq_false (show ¬ nI 11 = (3 : Int32) by decide), eq_false (show ¬ nI 11 = (4 : Int32) by decide), eq_false (show ¬ nI 11 = (5 : Int32) by decide), eq_false (show ¬ nI 11 = (6 : Int32) by decide), eq_false (show ¬ nI 11 = (7 : Int32) by decide), eq_false (show ¬ nI 11 = (8 : Int32) by decide), eq_false (show ¬ nI 11 = (9 : Int32) by decide), eq_false (show ¬ nI 11 = (10 : Int32) by decide), eq_true (show nI 11 = (11 : Int32) from rfl), if_false, if_true, hg, hq, zC_some, zka]; rfl, zf26.refl⟩
      | true => exact ⟨N1, by simp only [eq_false (show ¬ nI 11 = (0 : Int32) by decide), eq_false (show ¬ nI 11 = (1 : Int32) by decide), eq_false (show ¬ nI 11 = (2 : Int32) by decide), eq_false (show ¬ nI 11 = (3 : Int32) by decide), eq_false (show ¬ nI 11 = (4 : Int32) by decide), eq_false (show ¬ nI 11 = (5 : Int32) by decide), eq_false (show ¬ nI 11 = (6 : Int32) by decide), eq_false (show ¬ nI 11 = (7 : Int32) by decide), eq_false (show ¬ nI 11 = (8 : Int32) by decide), eq_false (show ¬ nI 11 = (9 : Int32) by decide), eq_false (show ¬ nI 11 = (10 : Int32) by decide), eq_true (show nI 11 = (11 : Int32) from rfl), if_false, if_true, hg, hq, zC_some, zka, e1]; rfl, f1⟩
