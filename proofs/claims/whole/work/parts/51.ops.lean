/-! ===== calls: meets ===== -/
def zme (a b : Nat) : Nat → Nat → zA → Option Nat
  | 0, _, _ => none
  | c + 1, i, A => if zcr (zvC A) a b = true then some i else zme a b c (i + 1) (zTk A)
theorem l6_me {a b : Nat} (ha : a < 6) (hb : b < 6) {k : zM → Int32 → Option (Int32 × zM)} : ∀ (c i n : Nat) (M : zM), i + c = 301 → c < n → zok (zcA M 1) →
    ∃ M', fX6_meets_L95 k (nI a) (nI b) n M (nI i) = (match zme a b c i (zcA M 1) with
      | none => k M' (nI 301)
      | some t => some (nI t, M')) ∧ zfr 1 1 M M' := by
  intro c
  induction c with
  | zero =>
    intro i n M hi hn h
    obtain ⟨n, rfl⟩ : ∃ q, n = q + 1 := ⟨n - 1, by omega⟩
    obtain rfl : i = 301 := by omega
    exact ⟨M, rfl, zfr.refl⟩
  | succ c ih =>
    intro i n M hi hn h
    obtain ⟨n, rfl⟩ : ∃ q, n = q + 1 := ⟨n - 1, by omega⟩
    unfold fX6_meets_L95
    obtain ⟨M1, e1, c1, _, _, w1, f1⟩ := e4_T (M := M) (j := 1) h
    have hC := zvC_ok h
    have hx := e5_cross (M := M1) (w := 1) (a := a) (b := b) (t := zcr (zvC (zcA M 1)) a b) ha hb w1 (fun q hq => znt_6 hC.2.1 hq) (znt_mem hC.2.1)
    rw [if_neg (by rw [show (300 : Int32) = nI 300 from rfl, zlt (by omega) (by omega)]; omega), e1, zC_some, hx, zC_some]
    show ∃ M', _ = (match (if zcr (zvC (zcA M 1)) a b = true then some i else zme a b c (i + 1) (zTk (zcA M 1))) with
      | none => k M' (nI 301)
      | some t => some (nI t, M')) ∧ zfr 1 1 M M'
    cases hz : zcr (zvC (zcA M 1)) a b with
    | false =>
      rw [if_pos (show zb false = 0 from rfl), if_neg (by decide), zL_eq, nI_1]
      obtain ⟨M2, e2, f2⟩ := ih (i + 1) n M1 (by omega) (by omega) (by rw [c1]; exact zTk_ok h)
      rw [c1] at e2
      exact ⟨M2, e2, f1.trans f2⟩
    | true =>
      rw [if_neg (show ¬ zb true = 0 by decide), if_pos rfl]
      exact ⟨M1, rfl, f1⟩
theorem n6_big {i : Nat} (h : i < 2 ^ 31) : ¬ nI i = -6 := by
  intro e
  have := congrArg Int32.toInt e
  rw [nI_toInt (by omega), show (-6 : Int32).toInt = -6 from rfl] at this
  omega
theorem l7_me {a b K : Nat} (hK6 : K ≤ 6) (ha : a < K) (hb : b < K) {k : zM → Int32 → Int32 → Option (Int32 × zM)} : ∀ (c i n : Nat) (N : zM), i + c = 300 → c + 1 < n → zok (zrA (N 27 0)) → zKn (zrA (N 27 0)) = K →
    ∃ (N' : zM) (t : Nat) (f : Bool), fX7_meets_L74 k (nI a) (nI b) n N (nI i) 0 = k N' (nI t) (zb f) ∧ (match zme a b c (i + 1) (zrA (N 27 0)) with
      | none => f = false
      | some q => t = q ∧ f = true) ∧ zf7 N N' := by
  intro c
  induction c with
  | zero =>
    intro i n N hi hn h hK
    obtain ⟨n, rfl⟩ : ∃ q, n = q + 1 := ⟨n - 1, by omega⟩
    obtain rfl : i = 300 := by omega
    exact ⟨N, 300, false, rfl, rfl, zf7.refl⟩
  | succ c ih =>
    intro i n N hi hn h hK
    obtain ⟨n, rfl⟩ : ∃ q, n = q + 1 := ⟨n - 1, by omega⟩
    unfold fX7_meets_L74
    obtain ⟨N1, e1, c1, _, _, w1, f1⟩ := e7_T (M := N) h
    have hw := w1 a b (by omega) (by omega)
    rw [if_neg (by rw [show (300 : Int32) = nI 300 from rfl, zle (by omega) (by omega)]; omega), if_pos rfl, e1, zC_some, zL_eq, nI_1, z6ix, zI_eq (zix_nI (show 6 * a + b < 36 by omega) (by omega)), zN_nI (by omega), hw]
    have hpl : zcr (zvC (zrA (N 27 0))) a b = true → zpl (zvC (zrA (N 27 0))) a b < 32 := zpl_lt
    cases hz : zcr (zvC (zrA (N 27 0))) a b with
    | false =>
      rw [if_neg (show ¬ false = true by decide), if_pos rfl]
      obtain ⟨N2, t, f, e2, g2, f2⟩ := ih (i + 1) n N1 (by omega) (by omega) (by rw [c1]; exact zTk_ok h) (by rw [c1, zTk_Kn h]; exact hK)
      rw [c1] at g2
      refine ⟨N2, t, f, e2, ?_, f1.trans f2⟩
      show match (if zcr (zvC (zrA (N 27 0))) a b = true then some (i + 1) else zme a b c (i + 1 + 1) (zTk (zrA (N 27 0)))) with
        | none => f = false
        | some q => t = q ∧ f = true
      rw [hz, if_neg (by decide)]; exact g2
    | true =>
      rw [if_pos rfl, if_neg (n6_big (by have := hpl hz; omega))]
      obtain ⟨n, rfl⟩ : ∃ q, n = q + 1 := ⟨n - 1, by omega⟩
      refine ⟨N1, i + 1, true, ?_, ?_, f1⟩
      · unfold fX7_meets_L74
        rw [if_neg (show ¬ (1 : Int32) = 0 by decide)]
        split <;> rfl
      · show match (if zcr (zvC (zrA (N 27 0))) a b = true then some (i + 1) else zme a b c (i + 1 + 1) (zTk (zrA (N 27 0)))) with
          | none => true = false
          | some q => i + 1 = q ∧ true = true
        rw [hz, if_pos rfl]
        exact ⟨rfl, rfl⟩
theorem j_meets {M N : zM} {σ : zSg} {v1 v2 : Int32} (h0 : zOK σ) (h1 : zCR M σ) (h2 : zRR N σ) : zJ (fX6_meets M v1 v2) (fX7_meets N v1 v2) M N := by
  have hK := h0.1.2.1
  unfold fX6_meets fX7_meets
  rw [gH h0 h1, gK h0 h2, zC_some, zC_some]
  refine zJ.gd h0 h1 h2 fun hw => ?_
  obtain ⟨a, ha, ha6, rfl⟩ := zhas_nI hw h0.1.2.1
  rw [gH h0 h1, gK h0 h2, zC_some, zC_some]
  refine zJ.gd h0 h1 h2 fun hw2 => ?_
  obtain ⟨b, hb, hb6, rfl⟩ := zhas_nI hw2 h0.1.2.1
  by_cases hne : a = b
  · rw [if_pos (by rw [hne]), if_pos (by rw [hne])]; exact zJ.ret h0 h1 h2
  have hne' : ¬ nI a = nI b := by rw [zeq (by omega) (by omega)]; exact hne
  rw [if_neg hne', if_neg hne', gF h0 h1 ha6, gG h0 h2 ha, zC_some, zC_some]
  refine zJ.gd h0 h1 h2 fun _ => ?_
  rw [gF h0 h1 hb6, gG h0 h2 hb, zC_some, zC_some]
  refine zJ.gd h0 h1 h2 fun _ => ?_
  obtain ⟨M1, m1, m2, m3⟩ := e5_measure (M := M) (w := 0) (j := 0) (by rw [h1.1]; exact h0.1)
  have a1 : zcA M1 0 = σ.1 := m3.cA.trans h1.1
  rw [h1.1] at m2
  have e7 := e7_cross (M := N) (k := a) (o := b) (by rw [h2.1]; exact hK) (by rw [h2.1]; exact (h0.1.2.2 a ha).kp) (by rw [h2.1]; exact (h0.1.2.2 b hb).kp) hne (by rw [h2.1]; exact ha) (by rw [h2.1]; exact hb)
  rw [h2.1] at e7
  rw [m1, zC_some, e5_cross (t := zcr σ.1 a b) ha6 hb6 m2 (fun q hq => znt_6 hK hq) (znt_mem hK), zC_some, e7, zC_some]
  cases hc : zcr σ.1 a b with
  | true =>
    rw [if_neg (show ¬ zb true = 0 by decide), if_neg (show ¬ zb true = 0 by decide), if_pos rfl]
    exact zJ.ans h0 h1 h2 m3.gs a1 (((zgn.w26 (by omega)).trans (zgn.w26 (by omega))).trans (zgn.w26 (by omega))) (by rw [zw_ne (by omega), zw_ne (by omega), zw_ne (by omega)]; exact h2.1)
  | false =>
    rw [if_pos (show zb false = 0 from rfl), if_pos (show zb false = 0 from rfl), if_neg (show ¬ false = true by decide)]
    obtain ⟨M2, e2, c2, f2⟩ := e2_copy (M := M1) (j := 1) (j1 := 0) (by omega)
    rw [a1] at c2
    obtain ⟨N1, a3, b3, d3⟩ := e7_save (N := N)
    rw [h2.1] at d3
    have n1A : zrA (N1 27 0) = σ.1 := by rw [b3 27 0 (by omega)]; exact h2.1
    obtain ⟨M3, e3, f3⟩ := l6_me ha6 hb6 (k := fun M37 v38 => some ((-6), M37)) 300 1 2000 M2 (by omega) (by omega) (by rw [c2]; exact h0.1)
    rw [c2, show nI 1 = (1 : Int32) from rfl] at e3
    have g3 : zgs M M3 := (m3.gs.trans (f2.gs (by omega))).trans (f3.gs (by omega))
    have g4 : zcA M3 0 = σ.1 := by rw [f3.cA (by omega), f2.cA (by omega)]; exact a1
    rw [e2, zC_some, e3, a3, zC_some]
    have key : ∀ (kk : zM → Int32 → Int32 → Option (Int32 × zM)) (o6 : Option (Int32 × zM)), (∀ (N2 : zM) (t : Nat) (f : Bool), (match zme a b 300 1 σ.1 with
        | none => f = false
        | some q => t = q ∧ f = true) → zgn N N2 → zrA (N2 28 0) = σ.1 → zJ o6 (kk N2 (nI t) (zb f)) M N) → zJ o6 (fX7_meets_L74 kk (nI a) (nI b) 2000 N1 0 0) M N := by
      intro kk o6 hk
      obtain ⟨N2, t, f, p1, p2, p3⟩ := l7_me hK ha hb (k := kk) 300 0 2000 N1 (by omega) (by omega) (by rw [n1A]; exact h0.1) (by rw [n1A])
      rw [n1A, Nat.zero_add] at p2
      have p1' : fX7_meets_L74 kk (nI a) (nI b) 2000 N1 (nI 0) (nI 0) = _ := p1
      rw [show nI 0 = (0 : Int32) from rfl] at p1'
      rw [p1']
      exact hk N2 t f p2 ((gn28 b3).trans p3.gn) (by rw [p3.1 28 0 (by omega) (by omega) (by omega)]; exact d3)
    refine key _ _ fun N2 t f p2 p3 p4 => ?_
    obtain ⟨N3, q1, q2, q3⟩ := e7_back (N := N2)
    have gN : zgn N N3 := p3.trans (gn27 q2)
    have gA : zrA (N3 27 0) = σ.1 := q3.trans p4
    rw [q1, zC_some]
    cases hq : zme a b 300 1 σ.1 with
    | none =>
      rw [hq] at p2
      have p2' : f = false := p2
      rw [p2', if_pos (show zb false = 0 from rfl)]
      exact zJ.ans h0 h1 h2 g3 g4 gN gA
    | some q =>
      rw [hq] at p2
      obtain ⟨r1, r2⟩ := p2
      rw [r2, if_neg (show ¬ zb true = 0 by decide), r1]
      exact zJ.ans h0 h1 h2 g3 g4 gN gA
