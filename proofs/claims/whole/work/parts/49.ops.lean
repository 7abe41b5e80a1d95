/-! ===== many ticks: pass, ifPassed ===== -/
def zt1 : Nat → zA × Int32 → zA × Int32 := fun _ s => (zTk s.1, s.2 ||| zmk (zcutP (zvC s.1)))
def zts (A : zA) (T : Nat) : zA × Int32 := zf zt1 T 0 (A, 0)
theorem zts_ok {A : zA} (h : zok A) (T : Nat) : zok (zts A T).1 := zf_inv (P := fun s : zA × Int32 => zok s.1) T 0 (A, 0) h (fun k _ _ s hs => zTk_ok hs)
theorem zts_Kn {A : zA} (h : zok A) (T : Nat) : zok (zts A T).1 ∧ zKn (zts A T).1 = zKn A := zf_inv (P := fun s : zA × Int32 => zok s.1 ∧ zKn s.1 = zKn A) T 0 (A, 0) ⟨h, rfl⟩ (fun k _ _ s hs => ⟨zTk_ok hs.1, (zTk_Kn hs.1).trans hs.2⟩)
theorem zfr.cA {j j' w : Nat} {M M' : zM} (h : zfr j w M M') (hne : j' ≠ j) : zcA M' j' = zcA M j' := zcA_eq (fun k h1 h2 => h k j' (by omega) (by omega) (by omega))
theorem l6_pass {T : Nat} (hT : T ≤ 200) {k : zM → Int32 → Int32 → Option (Int32 × zM)} : ∀ (c i n : Nat) (m : Int32) (M : zM), i + c = T → c < n → zok (zcA M 0) →
    ∃ M', fX6_pass_L29 k (nI T) n M m (nI i) = k M' (zf zt1 c i (zcA M 0, m)).2 (nI T) ∧ zcA M' 0 = (zf zt1 c i (zcA M 0, m)).1 ∧ zfr 0 1 M M' := by
  intro c
  induction c with
  | zero =>
    intro i n m M hi hn h
    obtain ⟨n, rfl⟩ : ∃ q, n = q + 1 := ⟨n - 1, by omega⟩
    obtain rfl : i = T := by omega
    refine ⟨M, ?_, rfl, zfr.refl⟩
    unfold fX6_pass_L29
    rw [if_pos (by rw [zle (by omega) (by omega)]; omega)]
    rfl
  | succ c ih =>
    intro i n m M hi hn h
    obtain ⟨n, rfl⟩ : ∃ q, n = q + 1 := ⟨n - 1, by omega⟩
    unfold fX6_pass_L29
    obtain ⟨M1, e1, c1, u1, _, _, f1⟩ := e4_T (M := M) (j := 0) h
    rw [if_neg (by rw [zle (by omega) (by omega)]; omega), e1, zC_some, zL_eq, zL_eq, u1, nI_1]
    obtain ⟨M2, e2, c2, f2⟩ := ih (i + 1) n (m ||| zmk (zcutP (zvC (zcA M 0)))) M1 (by omega) (by omega) (by rw [c1]; exact zTk_ok h)
    rw [c1] at e2 c2
    exact ⟨M2, e2, c2, f1.trans f2⟩
theorem l6_ifp {T : Nat} (hT : T ≤ 200) {a2 : Int32} {k : zM → Int32 → Int32 → Option (Int32 × zM)} : ∀ (c i n : Nat) (m : Int32) (M : zM), i + c = T → c < n → zok (zcA M 1) →
    ∃ M', fX6_ifPassed_L39 k (nI T) a2 n M m (nI i) = k M' (zf zt1 c i (zcA M 1, m)).2 (nI T) ∧ zcA M' 1 = (zf zt1 c i (zcA M 1, m)).1 ∧ zfr 1 1 M M' := by
  intro c
  induction c with
  | zero =>
    intro i n m M hi hn h
    obtain ⟨n, rfl⟩ : ∃ q, n = q + 1 := ⟨n - 1, by omega⟩
    obtain rfl : i = T := by omega
    refine ⟨M, ?_, rfl, zfr.refl⟩
    unfold fX6_ifPassed_L39
    rw [if_pos (by rw [zle (by omega) (by omega)]; omega)]
    rfl
  | succ c ih =>
    intro i n m M hi hn h
    obtain ⟨n, rfl⟩ : ∃ q, n = q + 1 := ⟨n - 1, by omega⟩
    unfold fX6_ifPassed_L39
    obtain ⟨M1, e1, c1, u1, _, _, f1⟩ := e4_T (M := M) (j := 1) h
    rw [if_neg (by rw [zle (by omega) (by omega)]; omega), e1, zC_some, zL_eq, zL_eq, u1, nI_1]
    obtain ⟨M2, e2, c2, f2⟩ := ih (i + 1) n (m ||| zmk (zcutP (zvC (zcA M 1)))) M1 (by omega) (by omega) (by rw [c1]; exact zTk_ok h)
    rw [c1] at e2 c2
    exact ⟨M2, e2, c2, f1.trans f2⟩
theorem l7_passes {T : Nat} (hT : T ≤ 200) {k : zM → Int32 → Int32 → Option (Int32 × zM)} : ∀ (c i n : Nat) (m : Int32) (N : zM), i + c = T → c < n → zok (zrA (N 27 0)) →
    ∃ N', fX7_passes_L4 k (nI T) n N m (nI i) = k N' (zf zt1 c i (zrA (N 27 0), m)).2 (nI T) ∧ zrA (N' 27 0) = (zf zt1 c i (zrA (N 27 0), m)).1 ∧ zf7 N N' := by
  intro c
  induction c with
  | zero =>
    intro i n m M hi hn h
    obtain ⟨n, rfl⟩ : ∃ q, n = q + 1 := ⟨n - 1, by omega⟩
    obtain rfl : i = T := by omega
    refine ⟨M, ?_, rfl, zf7.refl⟩
    unfold fX7_passes_L4
    rw [if_pos (by rw [zle (by omega) (by omega)]; omega)]
    rfl
  | succ c ih =>
    intro i n m M hi hn h
    obtain ⟨n, rfl⟩ : ∃ q, n = q + 1 := ⟨n - 1, by omega⟩
    unfold fX7_passes_L4
    obtain ⟨M1, e1, c1, u1, _, _, f1⟩ := e7_T (M := M) h
    rw [if_neg (by rw [zle (by omega) (by omega)]; omega), e1, zC_some, zL_eq, zL_eq, u1, nI_1]
    obtain ⟨M2, e2, c2, f2⟩ := ih (i + 1) n (m ||| zmk (zcutP (zvC (zrA (M 27 0))))) M1 (by omega) (by omega) (by rw [c1]; exact zTk_ok h)
    rw [c1] at e2 c2
    exact ⟨M2, e2, c2, f1.trans f2⟩
theorem e7_passes {N : zM} {A : zA} {T : Nat} (hT : T ≤ 200) (h : zok A) (hA : zrA (N 27 0) = A) : ∃ N', fX7_passes N (nI T) = some ((zts A T).2, N') ∧ zrA (N' 27 0) = (zts A T).1 ∧ zf7 N N' := by
  unfold fX7_passes
  obtain ⟨N', e, c, f⟩ := l7_passes hT (k := fun M24 v25 v26 => some (v25, M24)) T 0 2000 0 N (by omega) (by omega) (by rw [hA]; exact h)
  rw [hA] at e c
  exact ⟨N', e, c, f⟩
theorem j_pass {M N : zM} {σ : zSg} {v : Int32} (h0 : zOK σ) (h1 : zCR M σ) (h2 : zRR N σ) : zJ (fX6_pass M v) (fX7_pass N v) M N := by
  unfold fX6_pass fX7_pass
  rw [e2_within, e7_within, zC_some, zC_some]
  refine zJ.gd h0 h1 h2 fun hw => ?_
  obtain ⟨T, rfl, _, _, hT⟩ := zwin_n hw (by decide)
  have hT2 : T ≤ 200 := by have : (200 : Int32).toInt = 200 := rfl; omega
  refine zJ.rec h0 h1 h2 fun M1 N1 g0 g1 g2 => ?_
  obtain ⟨M2, e1, c1, f1⟩ := l6_pass hT2 (k := fun M27 v28 v29 => some (v28, M27)) T 0 2000 0 M1 (by omega) (by omega) (by rw [g1.1]; exact g0.1)
  obtain ⟨N2, e2, c2, f2⟩ := e7_passes (N := N1) hT2 g0.1 g2.1
  rw [g1.1] at e1 c1
  rw [e2, zC_some, show (0 : Int32) = nI 0 from rfl]
  rw [show (0 : Int32) = nI 0 from rfl] at e1 c1
  rw [e1]
  exact zJ.fin g0 g1 g2 (zts_ok g0.1 T) (f1.gs (by omega)) c1 f2.gn c2
theorem e7_save {N : zM} : ∃ N1, fX7_moves N 27 268 0 28 268 0 = some ((), N1) ∧ (∀ kk ii, ¬ (kk = 28 ∧ ii = 0) → N1 kk ii = N kk ii) ∧ zrA (N1 28 0) = zrA (N 27 0) := by
  obtain ⟨N1, e, f, g, _⟩ := e7_moves (M := N) (k1 := 27) (k2 := 28) (n1 := 268) (n2 := 268) (v1 := 0) (v3 := 0) 0 0 rfl rfl (by omega) (by omega) (by omega) (by omega) (by omega)
  refine ⟨N1, e, f, zrA_eq fun s hs => ?_⟩
  have := g s hs
  rw [Nat.zero_add] at this
  exact this
theorem e7_back {N : zM} : ∃ N1, fX7_moves N 28 268 0 27 268 0 = some ((), N1) ∧ (∀ kk ii, ¬ (kk = 27 ∧ ii = 0) → N1 kk ii = N kk ii) ∧ zrA (N1 27 0) = zrA (N 28 0) := by
  obtain ⟨N1, e, f, g, _⟩ := e7_moves (M := N) (k1 := 28) (k2 := 27) (n1 := 268) (n2 := 268) (v1 := 0) (v3 := 0) 0 0 rfl rfl (by omega) (by omega) (by omega) (by omega) (by omega)
  refine ⟨N1, e, f, zrA_eq fun s hs => ?_⟩
  have := g s hs
  rw [Nat.zero_add] at this
  exact this
theorem gn28 {N N1 : zM} (f : ∀ kk ii, ¬ (kk = 28 ∧ ii = 0) → N1 kk ii = N kk ii) : zgn N N1 := ⟨fun k i a b c d => f k i (by omega), by rw [f 26 0 (by omega)], by rw [f 26 0 (by omega)]⟩
theorem gn27 {N N1 : zM} (f : ∀ kk ii, ¬ (kk = 27 ∧ ii = 0) → N1 kk ii = N kk ii) : zgn N N1 := ⟨fun k i a b c d => f k i (by omega), by rw [f 26 0 (by omega)], by rw [f 26 0 (by omega)]⟩
theorem j_ifp {M N : zM} {σ : zSg} {v1 v2 : Int32} (h0 : zOK σ) (h1 : zCR M σ) (h2 : zRR N σ) : zJ (fX6_ifPassed M v1 v2) (fX7_ifPassed N v1 v2) M N := by
  unfold fX6_ifPassed fX7_ifPassed
  rw [e2_within, e7_within, zC_some, zC_some]
  refine zJ.gd h0 h1 h2 fun hw => ?_
  obtain ⟨T, rfl, _, _, hT⟩ := zwin_n hw (by decide)
  have hT2 : T ≤ 200 := by have : (200 : Int32).toInt = 200 := rfl; omega
  rw [e2_within, e7_within, zC_some, zC_some]
  refine zJ.gd h0 h1 h2 fun _ => ?_
  obtain ⟨M1, e1, c1, f1⟩ := e2_copy (M := M) (j := 1) (j1 := 0) (by omega)
  rw [h1.1] at c1
  obtain ⟨N1, a1, b1, d1⟩ := e7_save (N := N)
  rw [h2.1] at d1
  have n1A : zrA (N1 27 0) = σ.1 := by rw [b1 27 0 (by omega)]; exact h2.1
  obtain ⟨N2, a2, b2, d2⟩ := e7_passes (N := N1) hT2 h0.1 n1A
  have n28 : zrA (N2 28 0) = σ.1 := by rw [d2.1 28 0 (by omega) (by omega) (by omega)]; exact d1
  have gN : zgn N N2 := (gn28 b1).trans d2.gn
  have hok := zts_ok h0.1 T
  rw [e1, zC_some, a1, zC_some, e7_pts h0.1 n1A, zC_some, a2, zC_some]
  have key : ∀ (kk : zM → Int32 → Int32 → Option (Int32 × zM)) (o7 : Option (Int32 × zM)), (∀ M2, zcA M2 1 = (zts σ.1 T).1 → zgs M M2 → zcA M2 0 = σ.1 → zJ (kk M2 (zts σ.1 T).2 (nI T)) o7 M N) → zJ (fX6_ifPassed_L39 kk (nI T) v2 2000 M1 0 0) o7 M N := by
    intro kk o7 hk
    obtain ⟨M2, e2, c2, f2⟩ := l6_ifp hT2 (a2 := v2) (k := kk) T 0 2000 0 M1 (by omega) (by omega) (by rw [c1]; exact h0.1)
    rw [c1] at e2 c2
    rw [show (0 : Int32) = nI 0 from rfl] at e2 c2 ⊢
    rw [e2]
    exact hk M2 c2 ((f1.gs (by omega)).trans (f2.gs (by omega))) (by rw [f2.cA (by omega), f1.cA (by omega)]; exact h1.1)
  refine key _ _ fun M2 m1 m2 m3 => ?_
  by_cases q0 : v2 = 0
  · rw [if_pos q0, if_pos q0]
    obtain ⟨N3, a3, b3, d3⟩ := e7_back (N := N2)
    rw [a3, zC_some]
    exact zJ.ans h0 h1 h2 m2 m3 (gN.trans (gn27 b3)) (d3.trans n28)
  rw [if_neg q0, if_neg q0]
  by_cases q1 : v2 = 1
  · rw [if_pos q1, if_pos q1]
    obtain ⟨N3, a3, b3, d3⟩ := e7_back (N := N2)
    rw [e2_pts hok m1, zC_some, e2_pts h0.1 m3, zC_some, e7_pts hok b2, zC_some, zL_eq, a3, zC_some]
    exact zJ.ans h0 h1 h2 m2 m3 (gN.trans (gn27 b3)) (d3.trans n28)
  rw [if_neg q1, if_neg q1]
  obtain ⟨M3, p1, p2, p3⟩ := e5_measure (M := M2) (w := 0) (j := 1) (by rw [m1]; exact hok)
  rw [m1] at p2
  obtain ⟨N3, r1, r2⟩ := e7_many hok b2
  obtain ⟨N4, a4, b4, d4⟩ := e7_back (N := N3)
  rw [p1, zC_some, e5_crossings p2, zC_some, r1, zC_some, a4, zC_some]
  refine zJ.ans h0 h1 h2 (m2.trans p3.gs) (by rw [p3.cA]; exact m3) ((gN.trans r2.gn).trans (gn27 b4)) ?_
  rw [d4, r2.1 28 0 (by omega)]; exact n28
