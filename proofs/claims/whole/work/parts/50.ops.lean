/-! ===== calls: firstCut, meets ===== -/
def zcm (A : zA) : Int32 := zmk (zcutP (zvC A))
def zgm (A : zA) : Int32 := zmk (zgotP (zvC A))
def zfc : Nat → Nat → zA → Option (Nat × Int32 × Int32)
  | 0, _, _ => none
  | c + 1, i, A => if zcm A = 0 then zfc c (i + 1) (zTk A) else some (i, zcm A, zgm A)
def zfa (v : Int32) (t : Nat) (m g : Int32) : Int32 := if v = 0 then nI t else if v = 1 then zlow (zbq m) 6 (-6) else g
theorem l6_low {m : Int32} {M : zM} : ∀ (c i n : Nat), i + c = 6 → c < n → (∀ q, q < i → zbq m q = false) → fX6_lowestOf_L2 (fun M22 v23 => some ((-6), M22)) m n M (nI i) = some (zlow (zbq m) 6 (-6), M) := by
  intro c
  induction c with
  | zero =>
    intro i n hi hn h
    obtain ⟨n, rfl⟩ : ∃ q, n = q + 1 := ⟨n - 1, by omega⟩
    obtain rfl : i = 6 := by omega
    rw [zlow_none 6 (-6) h]
    rfl
  | succ c ih =>
    intro i n hi hn h
    obtain ⟨n, rfl⟩ : ∃ q, n = q + 1 := ⟨n - 1, by omega⟩
    unfold fX6_lowestOf_L2
    have hc : ¬ (6 : Int32) ≤ nI i := nI_ge (a := i) (b := 6) (by omega) (by omega)
    rw [if_neg hc]
    by_cases hb : ((m >>> (nI i &&& 31)) &&& 1) = 1
    · rw [if_pos hb, zlow_eq (p := i) (decide_eq_true hb) h 6 (-6) (by omega)]
    · rw [if_neg hb, zL_eq, nI_1]
      refine ih (i + 1) n (by omega) (by omega) fun q hq => ?_
      by_cases hqi : q = i
      · rw [hqi]; exact decide_eq_false hb
      · exact h q (by omega)
theorem e6_low {m : Int32} {M : zM} : fX6_lowestOf M m = some (zlow (zbq m) 6 (-6), M) := l6_low 6 0 2000 (by omega) (by omega) (fun q h => by omega)
theorem l7_low {m : Int32} {N : zM} {k : zM → Int32 → Int32 → Option (Int32 × zM)} : ∀ (c n : Nat) (a : Int32), c ≤ 6 → c < n → fX7_lowest_L5 k m n N a (zdn c) = k N (zlow (zbq m) c a) (-1) := by
  intro c
  induction c with
  | zero =>
    intro n a hc hn
    obtain ⟨n, rfl⟩ : ∃ q, n = q + 1 := ⟨n - 1, by omega⟩
    rfl
  | succ c ih =>
    intro n a hc hn
    obtain ⟨n, rfl⟩ : ∃ q, n = q + 1 := ⟨n - 1, by omega⟩
    unfold fX7_lowest_L5
    have hc0 : ¬ nI c < 0 := nI_pos (by omega)
    have ez : zdn (c + 1) = nI c := rfl
    rw [ez, if_neg hc0, zL_eq, zL_eq, zdn_step (by omega)]
    show _ = k N (zlow _ c (if zbq m c = true then nI c else a)) (-1)
    by_cases hb : ((m >>> (nI c &&& 31)) &&& 1) = 1
    · rw [if_pos hb, if_pos (show zbq m c = true from decide_eq_true hb)]; exact ih n _ (by omega) (by omega)
    · rw [if_neg hb, if_neg (show ¬ zbq m c = true by rw [show zbq m c = false from decide_eq_false hb]; decide)]; exact ih n _ (by omega) (by omega)
theorem e7_low {m : Int32} {N : zM} : fX7_lowest N m = some (zlow (zbq m) 6 (-6), N) := by
  unfold fX7_lowest
  rw [show (5 : Int32) = zdn 6 from rfl, l7_low 6 2000 (-6) (by omega) (by omega)]
theorem l6_fc {v : Int32} {k : zM → Int32 → Option (Int32 × zM)} : ∀ (c i n : Nat) (M : zM), i + c = 301 → c < n → zok (zcA M 1) →
    ∃ M', fX6_firstCut_L25 k v n M (nI i) = (match zfc c i (zcA M 1) with
      | none => k M' (nI 301)
      | some q => some (zfa v q.1 q.2.1 q.2.2, M')) ∧ zfr 1 1 M M' := by
  intro c
  induction c with
  | zero =>
    intro i n M hi hn h
    obtain ⟨n, rfl⟩ : ∃ q, n = q + 1 := ⟨n - 1, by omega⟩
    obtain rfl : i = 301 := by omega
    exact ⟨M, rfl, zfr.refl⟩
  | succ c ih =>
    intro i n M hi hn h
    obtain ⟨n, rfl⟩ : ∃ q, n = q + 1 := ⟨n - 1, by omega⟩
    unfold fX6_firstCut_L25
    obtain ⟨M1, e1, c1, u1, u2, _, f1⟩ := e4_T (M := M) (j := 1) h
    rw [if_neg (by rw [show (300 : Int32) = nI 300 from rfl, zlt (by omega) (by omega)]; omega), e1, zC_some, u1]
    show ∃ M', (if zcm (zcA M 1) = 0 then _ else _) = (match (if zcm (zcA M 1) = 0 then zfc c (i + 1) (zTk (zcA M 1)) else some (i, zcm (zcA M 1), zgm (zcA M 1))) with
      | none => k M' (nI 301)
      | some q => some (zfa v q.1 q.2.1 q.2.2, M')) ∧ zfr 1 1 M M'
    by_cases hz : zcm (zcA M 1) = 0
    · rw [if_pos hz, if_pos hz, zL_eq, nI_1]
      obtain ⟨M2, e2, f2⟩ := ih (i + 1) n M1 (by omega) (by omega) (by rw [c1]; exact zTk_ok h)
      rw [c1] at e2
      exact ⟨M2, e2, f1.trans f2⟩
    · rw [if_neg hz, if_neg hz]
      refine ⟨M1, ?_, f1⟩
      unfold fX6_aboutCut
      show _ = some (zfa v i (zcm (zcA M 1)) (zgm (zcA M 1)), M1)
      unfold zfa
      by_cases q0 : v = 0
      · rw [if_pos q0, if_pos q0, zC_some]
      · rw [if_neg q0, if_neg q0]
        by_cases q1 : v = 1
        · rw [if_pos q1, if_pos q1, e6_low, zC_some, zC_some, u1]; rfl
        · rw [if_neg q1, if_neg q1, zC_some, u2]; rfl
theorem l7_fc {v : Int32} {k : zM → Int32 → Option (Int32 × zM)} : ∀ (c i n : Nat) (N : zM), i + c = 300 → c + 1 < n → zok (zrA (N 27 0)) → N 26 0 12 = 0 →
    ∃ N' t, fX7_firstCut_L32 k v n N (nI i) = k N' (nI t) ∧ (match zfc c (i + 1) (zrA (N 27 0)) with
      | none => N' 26 0 12 = 0
      | some q => t = q.1 ∧ N' 26 0 12 = q.2.1 ∧ ¬ q.2.1 = 0 ∧ N' 26 0 13 = q.2.2) ∧ zf7 N N' := by
  intro c
  induction c with
  | zero =>
    intro i n N hi hn h h12
    obtain ⟨n, rfl⟩ : ∃ q, n = q + 1 := ⟨n - 1, by omega⟩
    obtain rfl : i = 300 := by omega
    exact ⟨N, 300, rfl, h12, zf7.refl⟩
  | succ c ih =>
    intro i n N hi hn h h12
    obtain ⟨n, rfl⟩ : ∃ q, n = q + 1 := ⟨n - 1, by omega⟩
    unfold fX7_firstCut_L32
    obtain ⟨N1, e1, c1, u1, u2, _, f1⟩ := e7_T (M := N) h
    rw [if_neg (by rw [show (300 : Int32) = nI 300 from rfl, zle (by omega) (by omega)]; omega), if_pos h12, e1, zC_some, zL_eq, nI_1]
    by_cases hz : zcm (zrA (N 27 0)) = 0
    · obtain ⟨N2, t, e2, g2, f2⟩ := ih (i + 1) n N1 (by omega) (by omega) (by rw [c1]; exact zTk_ok h) (by rw [u1]; exact hz)
      rw [c1] at g2
      refine ⟨N2, t, e2, ?_, f1.trans f2⟩
      show match (if zcm (zrA (N 27 0)) = 0 then zfc c (i + 1 + 1) (zTk (zrA (N 27 0))) else some (i + 1, zcm (zrA (N 27 0)), zgm (zrA (N 27 0)))) with
        | none => N2 26 0 12 = 0
        | some q => t = q.1 ∧ N2 26 0 12 = q.2.1 ∧ ¬ q.2.1 = 0 ∧ N2 26 0 13 = q.2.2
      rw [if_pos hz]; exact g2
    · obtain ⟨n, rfl⟩ : ∃ q, n = q + 1 := ⟨n - 1, by omega⟩
      refine ⟨N1, i + 1, ?_, ?_, f1⟩
      · unfold fX7_firstCut_L32
        rw [if_neg (show ¬ N1 26 0 12 = 0 by rw [u1]; exact hz)]
        split <;> rfl
      · show match (if zcm (zrA (N 27 0)) = 0 then zfc c (i + 1 + 1) (zTk (zrA (N 27 0))) else some (i + 1, zcm (zrA (N 27 0)), zgm (zrA (N 27 0)))) with
          | none => N1 26 0 12 = 0
          | some q => i + 1 = q.1 ∧ N1 26 0 12 = q.2.1 ∧ ¬ q.2.1 = 0 ∧ N1 26 0 13 = q.2.2
        rw [if_neg hz]
        exact ⟨rfl, u1, hz, u2⟩
theorem j_firstCut {M N : zM} {σ : zSg} {v : Int32} (h0 : zOK σ) (h1 : zCR M σ) (h2 : zRR N σ) : zJ (fX6_firstCut M v) (fX7_firstCut N v) M N := by
  unfold fX6_firstCut fX7_firstCut
  rw [e2_within, e7_within, zC_some, zC_some]
  refine zJ.gd h0 h1 h2 fun _ => ?_
  obtain ⟨M1, e1, c1, f1⟩ := e2_copy (M := M) (j := 1) (j1 := 0) (by omega)
  rw [h1.1] at c1
  obtain ⟨N1, a1, b1, d1⟩ := e7_save (N := N)
  rw [h2.1] at d1
  rw [e1, zC_some, a1, zC_some, zL_eq]
  obtain ⟨M2, e2, f2⟩ := l6_fc (v := v) (k := fun M28 v29 => some ((-6), M28)) 300 1 2000 M1 (by omega) (by omega) (by rw [c1]; exact h0.1)
  rw [c1] at e2
  have m2 : zgs M M2 := (f1.gs (by omega)).trans (f2.gs (by omega))
  have m3 : zcA M2 0 = σ.1 := by rw [f2.cA (by omega), f1.cA (by omega)]; exact h1.1
  rw [show nI 1 = (1 : Int32) from rfl] at e2
  have n0 : (zw N1 26 0 12 0) 26 0 12 = 0 := by rw [zw_at]; unfold upd; rw [if_pos rfl]
  have nA : zrA ((zw N1 26 0 12 0) 27 0) = σ.1 := by rw [zw_ne (by omega), b1 27 0 (by omega)]; exact h2.1
  have n28 : zrA ((zw N1 26 0 12 0) 28 0) = σ.1 := by rw [zw_ne (by omega)]; exact d1
  have nG : zgn N (zw N1 26 0 12 0) := (gn28 b1).trans (zgn.w26 (by omega))
  have key : ∀ (kk : zM → Int32 → Option (Int32 × zM)) (o6 : Option (Int32 × zM)), (∀ (N2 : zM) (t : Nat), (match zfc 300 1 σ.1 with
      | none => N2 26 0 12 = 0
      | some q => t = q.1 ∧ N2 26 0 12 = q.2.1 ∧ ¬ q.2.1 = 0 ∧ N2 26 0 13 = q.2.2) → zgn N N2 → zrA (N2 28 0) = σ.1 → zJ o6 (kk N2 (nI t)) M N) → zJ o6 (fX7_firstCut_L32 kk v 2000 (zw N1 26 0 12 0) 0) M N := by
    intro kk o6 hk
    obtain ⟨N2, t, p1, p2, p3⟩ := l7_fc (v := v) (k := kk) 300 0 2000 (zw N1 26 0 12 0) (by omega) (by omega) (by rw [nA]; exact h0.1) n0
    rw [nA, Nat.zero_add] at p2
    rw [show (0 : Int32) = nI 0 from rfl] at p1 ⊢
    rw [p1]
    exact hk N2 t p2 (nG.trans p3.gn) (by rw [p3.1 28 0 (by omega) (by omega) (by omega)]; exact n28)
  refine key _ _ fun N2 t p2 p3 p4 => ?_
  obtain ⟨N3, a3, b3, d3⟩ := e7_back (N := N2)
  have gN : zgn N N3 := p3.trans (gn27 b3)
  have gA : zrA (N3 27 0) = σ.1 := d3.trans p4
  have h12 : N3 26 0 12 = N2 26 0 12 := by rw [b3 26 0 (by omega)]
  have h13 : N3 26 0 13 = N2 26 0 13 := by rw [b3 26 0 (by omega)]
  rw [a3, zC_some, h12, h13]
  rw [e2]
  cases hq : zfc 300 1 σ.1 with
  | none =>
    rw [hq] at p2
    rw [if_pos p2]
    exact zJ.ans h0 h1 h2 m2 m3 gN gA
  | some q =>
    rw [hq] at p2
    obtain ⟨r1, r2, r3, r4⟩ := p2
    rw [if_neg (by rw [r2]; exact r3), r2, r4, r1]
    show zJ (some (zfa v q.1 q.2.1 q.2.2, M2)) _ M N
    unfold zfa
    by_cases q0 : v = 0
    · rw [if_pos q0, if_pos q0]; exact zJ.ans h0 h1 h2 m2 m3 gN gA
    · rw [if_neg q0, if_neg q0]
      by_cases q1 : v = 1
      · rw [if_pos q1, if_pos q1, e7_low, zC_some]; exact zJ.ans h0 h1 h2 m2 m3 gN gA
      · rw [if_neg q1, if_neg q1]; exact zJ.ans h0 h1 h2 m2 m3 gN gA
