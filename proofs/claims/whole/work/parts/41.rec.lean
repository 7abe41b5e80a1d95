/-! ===== the reference's copies, its record; both sides of a call ===== -/
theorem l7_moves {k1 k2 n1 n2 x y : Nat} (hne : k1 ≠ k2) (hx : x + 268 ≤ n1) (hy : y + 268 ≤ n2) (h1 : n1 ≤ 2000) (h2 : n2 ≤ 2000) {k : zM → Int32 → Option (Unit × zM)} : ∀ (c i n : Nat) (M : zM), i + c = 268 → c < n →
    ∃ M', fX7_moves_L3 k k1 n1 k2 n2 (nI x) (nI y) n M (nI i) = k M' (nI 268) ∧ (∀ kk ii, ¬ (kk = k2 ∧ ii = 0) → M' kk ii = M kk ii) ∧ ∀ s, M' k2 0 s = if y + i ≤ s ∧ s < y + 268 then M k1 0 (x + (s - y)) else M k2 0 s := by
  intro c
  induction c with
  | zero =>
    intro i n M hi hn
    obtain ⟨n, rfl⟩ : ∃ q, n = q + 1 := ⟨n - 1, by omega⟩
    obtain rfl : i = 268 := by omega
    exact ⟨M, rfl, fun _ _ _ => rfl, fun s => by rw [if_neg (by omega)]⟩
  | succ c ih =>
    intro i n M hi hn
    obtain ⟨n, rfl⟩ : ∃ q, n = q + 1 := ⟨n - 1, by omega⟩
    unfold fX7_moves_L3
    have hc : ¬ (268 : Int32) ≤ nI i := nI_ge (a := i) (b := 268) (by omega) (by omega)
    simp only [if_neg hc, nI_add, zI_eq (zix_nI (show x + i < n1 by omega) (by omega)), zI_eq (zix_nI (show y + i < n2 by omega) (by omega)), zL_eq, nI_1, zN_nI (show x + i < 2 ^ 31 by omega), zN_nI (show y + i < 2 ^ 31 by omega)]
    obtain ⟨M', e, f, g⟩ := ih (i + 1) n (zw M k2 0 (y + i) (M k1 0 (x + i))) (by omega) (by omega)
    refine ⟨M', e, fun kk ii h => (f kk ii h).trans (zw_ne h), fun s => ?_⟩
    rw [g s, zw_ne (by omega), zw_at]
    unfold upd
    by_cases h3 : s = y + i
    · subst h3
      rw [if_neg (by omega), if_pos rfl, if_pos (by omega)]
      congr 1; omega
    · by_cases h4 : y + (i + 1) ≤ s ∧ s < y + 268
      · rw [if_pos h4, if_pos (by omega)]
      · rw [if_neg h4, if_neg h3, if_neg (by omega)]
theorem e7_moves {M : zM} {k1 k2 n1 n2 : Nat} {v1 v3 : Int32} (x y : Nat) (hv1 : v1 = nI x) (hv3 : v3 = nI y) (hne : k1 ≠ k2) (hx : x + 268 ≤ n1) (hy : y + 268 ≤ n2) (h1 : n1 ≤ 2000) (h2 : n2 ≤ 2000) : ∃ M', fX7_moves M k1 n1 v1 k2 n2 v3 = some ((), M') ∧ (∀ kk ii, ¬ (kk = k2 ∧ ii = 0) → M' kk ii = M kk ii) ∧ (∀ s, s < 268 → M' k2 0 (y + s) = M k1 0 (x + s)) ∧ ∀ s, ¬ (y ≤ s ∧ s < y + 268) → M' k2 0 s = M k2 0 s := by
  unfold fX7_moves
  rw [hv1, hv3, show (0 : Int32) = nI 0 from rfl]
  obtain ⟨M', e, f, g⟩ := l7_moves hne hx hy h1 h2 (k := fun M23 v24 => some ((), M23)) 268 0 2000 M (by omega) (by omega)
  refine ⟨M', e, f, fun s hs => ?_, fun s hs => ?_⟩
  · rw [g, if_pos (by omega)]; congr 1; omega
  · rw [g, if_neg (by omega)]
theorem l7_shift {k : zM → Int32 → Option (Unit × zM)} : ∀ (c i n : Nat) (M : zM), i + c = 1340 → c < n →
    ∃ M', fX7_record_L11 k n M (nI i) = k M' (nI 1340) ∧ (∀ kk ii, ¬ (kk = 29 ∧ ii = 0) → M' kk ii = M kk ii) ∧ ∀ s, M' 29 0 s = if i ≤ s ∧ s < 1340 then M 29 0 (s + 268) else M 29 0 s := by
  intro c
  induction c with
  | zero =>
    intro i n M hi hn
    obtain ⟨n, rfl⟩ : ∃ q, n = q + 1 := ⟨n - 1, by omega⟩
    obtain rfl : i = 1340 := by omega
    exact ⟨M, rfl, fun _ _ _ => rfl, fun s => by rw [if_neg (by omega)]⟩
  | succ c ih =>
    intro i n M hi hn
    obtain ⟨n, rfl⟩ : ∃ q, n = q + 1 := ⟨n - 1, by omega⟩
    unfold fX7_record_L11
    have hc : ¬ (1340 : Int32) ≤ nI i := nI_ge (a := i) (b := 1340) (by omega) (by omega)
    simp only [if_neg hc, show (268 : Int32) = nI 268 from rfl, nI_add, zI_eq (zix_nI (show i + 268 < 1608 by omega) (by omega)), zI_eq (zix_nI (show i < 1608 by omega) (by omega)), zL_eq, nI_1, zN_nI (show i + 268 < 2 ^ 31 by omega), zN_nI (show i < 2 ^ 31 by omega)]
    obtain ⟨M', e, f, g⟩ := ih (i + 1) n (zw M 29 0 i (M 29 0 (i + 268))) (by omega) (by omega)
    refine ⟨M', e, fun kk ii h => (f kk ii h).trans (zw_ne h), fun s => ?_⟩
    rw [g s, zw_at]
    unfold upd
    by_cases h3 : s = i
    · subst h3
      rw [if_neg (by omega), if_pos rfl, if_pos (by omega)]
    · by_cases h4 : i + 1 ≤ s ∧ s < 1340
      · rw [if_pos h4, if_neg (by omega), if_pos (by omega)]
      · rw [if_neg h4, if_neg h3, if_neg (by omega)]
theorem zrA_of {f g : Nat → Int32} {A : zA} (h : zrA f = A) (e : ∀ s, s < 268 → g s = f s) : zrA g = A := (zrA_eq e).trans h
theorem e7_rec {N : zM} {σ : zSg} (hok : zOK σ) (h : zRR N σ) : ∃ N', fX7_record N = some ((), N') ∧ zRR N' (zrec σ) ∧ zlo N N' := by
  obtain ⟨h1, h2, h3, h4, h5, h6⟩ := h
  have hl := hok.2.2.1
  -- the last half, the same in both cases
  have key : ∀ (N1 N2 : zM) (L : Nat), L < 6 → N1 26 0 3 = nI L → ((σ.1 :: σ.2.1).take 6).length = L + 1 → (∀ k i, k ≠ 26 → k ≠ 29 → N1 k i = N k i) → N1 26 0 7 = N 26 0 7 → (∀ kk ii, ¬ (kk = 29 ∧ ii = 0) → N2 kk ii = N1 kk ii) → (∀ s, s < 268 → N2 29 0 (268 * L + s) = N1 27 0 (0 + s)) → (∀ s, ¬ (268 * L ≤ s ∧ s < 268 * L + 268) → N2 29 0 s = N1 29 0 s) → (∀ n, n < L → ∃ m, m < σ.2.1.length ∧ m = n ∧ ∀ s, s < 268 → N1 29 0 (268 * (L - 1 - n) + s) = N 29 0 (268 * (σ.2.1.length - 1 - n) + s)) → zRR (zw N2 26 0 3 (N2 26 0 3 + 1)) (zrec σ) := by
    intro N1 N2 L hL a1 a2 a3 a4 b1 b2 b3 b4
    have e : ∀ k i, ¬ (k = 26 ∧ i = 0) → k ≠ 29 → k ≠ 26 → zw N2 26 0 3 (N2 26 0 3 + 1) k i = N k i := fun k i q1 q2 q3 => by
      rw [zw_ne q1, b1 k i (by omega), a3 k i q3 q2]
    refine ⟨?_, ?_, ?_, ?_, ?_, ?_⟩
    · show zrA _ = σ.1
      rw [e 27 0 (by omega) (by omega) (by omega)]; exact h1
    · show _ = nI ((σ.1 :: σ.2.1).take 6).length
      rw [a2, zw_at]; unfold upd; rw [if_pos rfl, b1 26 0 (by omega), a1, nI_1]
    · intro n hn
      show ((σ.1 :: σ.2.1).take 6)[n]? = some (zrA (fun s => zw N2 26 0 3 (N2 26 0 3 + 1) 29 0 (268 * (((σ.1 :: σ.2.1).take 6).length - 1 - n) + s)))
      have hn' : n < ((σ.1 :: σ.2.1).take 6).length := hn
      rw [a2] at hn' ⊢
      rw [List.getElem?_take_of_lt (by omega), zw_ne (by omega)]
      cases n with
      | zero =>
        show some σ.1 = _
        congr 1
        refine (zrA_of h1 fun s hs => ?_).symm
        rw [show 268 * (L + 1 - 1 - 0) + s = 268 * L + s by omega, b2 s hs, Nat.zero_add, a3 27 0 (by omega) (by omega)]
      | succ n =>
        show σ.2.1[n]? = _
        obtain ⟨m, b5, em, b6⟩ := b4 n (by omega)
        rw [em] at b5
        rw [h3 n b5]
        congr 1
        refine zrA_eq fun s hs => ?_
        rw [b3 _ (by omega), show 268 * (L + 1 - 1 - (n + 1)) + s = 268 * (L - 1 - n) + s by omega, b6 s hs]
    · intro i hi
      rw [e 30 0 (by omega) (by omega) (by omega), e 31 0 (by omega) (by omega) (by omega)]; exact h4 i hi
    · show _ = nI σ.2.2.2.2.length
      rw [zw_at]; unfold upd; rw [if_neg (by omega), b1 26 0 (by omega), a4]; exact h5
    · intro q c hq
      rw [e 32 0 (by omega) (by omega) (by omega)]; exact h6 q c hq
  unfold fX7_record
  by_cases h6' : σ.2.1.length = 6
  · rw [h2, h6', if_pos (show nI 6 = (6 : Int32) from rfl)]
    obtain ⟨M1, e1, f1, g1⟩ := l7_shift (k := fun M25 v26 => zL (zw M25 26 0 3 ((M25 26 0 3) - 1)) fun M27 => zC (fX7_moves M27 27 268 (nI 0) 29 1608 ((M27 26 0 3) * 268)) fun _ M28 => zL (zw M28 26 0 3 ((M28 26 0 3) + 1)) fun M29 => some ((), M29)) 1340 0 2000 N (by omega) (by omega)
    rw [show (0 : Int32) = nI 0 from rfl, e1, zL_eq]
    have e26 : M1 26 0 3 = nI 6 := by rw [f1 26 0 (by omega), h2, h6']
    have e5 : (zw M1 26 0 3 (M1 26 0 3 - 1)) 26 0 3 = nI 5 := by rw [zw_at]; unfold upd; rw [if_pos rfl, e26]; decide
    obtain ⟨M2, e2, f2, g2, g3⟩ := e7_moves (M := zw M1 26 0 3 (M1 26 0 3 - 1)) (k1 := 27) (k2 := 29) (n1 := 268) (n2 := 1608) (v1 := nI 0) (v3 := (zw M1 26 0 3 (M1 26 0 3 - 1)) 26 0 3 * 268) 0 (268 * 5) rfl (by rw [e5]; decide) (by omega) (by omega) (by omega) (by omega) (by omega)
    rw [e2, zC_some, zL_eq]
    refine ⟨_, rfl, key (zw M1 26 0 3 (M1 26 0 3 - 1)) M2 5 (by omega) e5 (by rw [List.length_take, List.length_cons, h6']; rfl) (fun k i q1 q2 => ?_) ?_ f2 g2 g3 (fun n hn => ⟨n, by omega, rfl, fun s hs => ?_⟩), fun k i hk => ?_⟩
    · rw [zw_ne (by omega), f1 k i (by omega)]
    · rw [zw_at]; unfold upd; rw [if_neg (by omega), f1 26 0 (by omega)]
    · rw [zw_ne (by omega), g1, if_pos (by omega), h6', show 268 * (5 - 1 - n) + s + 268 = 268 * (6 - 1 - n) + s by omega]
    · rw [zw_ne (by omega), f2 k i (by omega), zw_ne (by omega), f1 k i (by omega)]
  · have hn6 : ¬ nI σ.2.1.length = 6 := by rw [show (6 : Int32) = nI 6 from rfl, zeq (by omega) (by omega)]; exact h6'
    rw [h2, if_neg hn6]
    obtain ⟨M2, e2, f2, g2, g3⟩ := e7_moves (M := N) (k1 := 27) (k2 := 29) (n1 := 268) (n2 := 1608) (v1 := 0) (v3 := nI σ.2.1.length * 268) 0 (268 * σ.2.1.length) rfl (by rw [show (268 : Int32) = nI 268 from rfl, pk_mul, Nat.mul_comm]) (by omega) (by omega) (by omega) (by omega) (by omega)
    rw [e2, zC_some, zL_eq]
    refine ⟨_, rfl, key N M2 σ.2.1.length (by omega) h2 (by rw [List.length_take, List.length_cons]; omega) (fun k i q1 q2 => rfl) rfl f2 g2 g3 (fun n hn => ⟨n, by omega, rfl, fun s hs => rfl⟩), fun k i hk => ?_⟩
    rw [zw_ne (by omega), f2 k i (by omega)]
/-! both sides -/
def zJ (o6 o7 : Option (Int32 × zM)) (M N : zM) : Prop := ∃ x M' N' σ', o6 = some (x, M') ∧ o7 = some (x, N') ∧ zOK σ' ∧ zCR M' σ' ∧ zRR N' σ' ∧ zhi M M' ∧ zlo N N'
theorem zJ.comb {f6 f7 : zM → Option (Int32 × zM)} (h : ∀ M N σ, zOK σ → zCR M σ → zRR N σ → zJ (f6 M) (f7 N) M N) : ∀ M, zInv M → ∃ r M1 M2, f6 M = some (r, M1) ∧ f7 M1 = some (r, M2) ∧ zInv M2 := by
  rintro M ⟨σ, h0, h1, h2⟩
  obtain ⟨x, M1, N1, σ1, a1, _, _, _, _, a6, _⟩ := h M M σ h0 h1 h2
  obtain ⟨x', M1', N2, σ2, b1, b2, b3, b4, b5, b6, b7⟩ := h M M1 σ h0 h1 (a6.RR h2)
  rw [a1] at b1
  cases b1
  exact ⟨x, M1, N2, a1, b2, σ2, b3, b7.CR b4, b5⟩
theorem zJ.mono {o6 o7 : Option (Int32 × zM)} {M N M1 N1 : zM} (h : zJ o6 o7 M1 N1) (hM : zhi M M1) (hN : zlo N N1) : zJ o6 o7 M N := by
  obtain ⟨x, M', N', σ', a1, a2, a3, a4, a5, a6, a7⟩ := h
  exact ⟨x, M', N', σ', a1, a2, a3, a4, a5, hM.trans a6, hN.trans a7⟩
theorem zJ.ret {M N : zM} {σ : zSg} {x : Int32} (h0 : zOK σ) (h1 : zCR M σ) (h2 : zRR N σ) : zJ (some (x, M)) (some (x, N)) M N := ⟨x, M, N, σ, rfl, rfl, h0, h1, h2, zhi.refl, zlo.refl⟩
theorem zJ.gd {b : Bool} {e : Int32} {X Y : Option (Int32 × zM)} {M N : zM} {σ : zSg} (h0 : zOK σ) (h1 : zCR M σ) (h2 : zRR N σ) (h : b = true → zJ X Y M N) : zJ (if zb b = 0 then some (e, M) else X) (if zb b = 0 then some (e, N) else Y) M N := by
  cases b with
  | false => exact zJ.ret h0 h1 h2
  | true => exact h rfl
def zgs (M M' : zM) : Prop := ∀ k i, ¬ (1 ≤ k ∧ k ≤ 14 ∧ i < 2) → ¬ (15 ≤ k ∧ k ≤ 20) → M' k i = M k i
def zgn (N N' : zM) : Prop := (∀ k i, k ≠ 26 → k ≠ 27 → k ≠ 28 → k ≠ 33 → N' k i = N k i) ∧ N' 26 0 3 = N 26 0 3 ∧ N' 26 0 7 = N 26 0 7
theorem zgs.refl {M : zM} : zgs M M := fun _ _ _ _ => rfl
theorem zgs.trans {M M1 M2 : zM} (h : zgs M M1) (h2 : zgs M1 M2) : zgs M M2 := fun k i a b => (h2 k i a b).trans (h k i a b)
theorem zgn.refl {M : zM} : zgn M M := ⟨fun _ _ _ _ _ _ => rfl, rfl, rfl⟩
theorem zgn.trans {M M1 M2 : zM} (h : zgn M M1) (h2 : zgn M1 M2) : zgn M M2 := ⟨fun k i a b c d => (h2.1 k i a b c d).trans (h.1 k i a b c d), h2.2.1.trans h.2.1, h2.2.2.trans h.2.2⟩
theorem zfk.gs {j : Nat} {M M' : zM} (hj : j < 2) (h : zfk j M M') : zgs M M' := fun k i a b => h k i (by omega)
theorem zfr.gs {j w : Nat} {M M' : zM} (hj : j < 2) (h : zfr j w M M') : zgs M M' := fun k i a b => h k i (by omega) (by omega) (by omega)
theorem zfw.gs {w : Nat} {M M' : zM} (h : zfw w M M') : zgs M M' := fun k i a b => h k i (by omega)
theorem zf7.gn {M M' : zM} (h : zf7 M M') : zgn M M' := ⟨fun k i a b c d => h.1 k i a b d, h.2 3 (by omega), h.2 7 (by omega)⟩
theorem zf27.gn {M M' : zM} (h : zf27 M M') : zgn M M' := ⟨fun k i a b c d => h k i b, by rw [h 26 0 (by omega)], by rw [h 26 0 (by omega)]⟩
theorem zgn.w27 {M : zM} {s : Nat} {v : Int32} : zgn M (zw M 27 0 s v) := ⟨fun k i a b c d => zw_ne (by omega), by rw [zw_ne (by omega)], by rw [zw_ne (by omega)]⟩
theorem zgn.w26 {M : zM} {s : Nat} {v : Int32} (h : s ≠ 3 ∧ s ≠ 7) : zgn M (zw M 26 0 s v) := ⟨fun k i a b c d => zw_ne (by omega), by rw [zw_at]; unfold upd; rw [if_neg (by omega)], by rw [zw_at]; unfold upd; rw [if_neg (by omega)]⟩
theorem zgs.hi {M M' : zM} (h : zgs M M') : zhi M M' := fun k i hk => h k i (by omega) (by omega)
theorem zgn.lo {M M' : zM} (h : zgn M M') : zlo M M' := fun k i hk => h.1 k i (by omega) (by omega) (by omega) (by omega)
theorem zgs.CR {M M' : zM} {σ : zSg} {A : zA} (h : zCR M σ) (hf : zgs M M') (hA : zcA M' 0 = A) : zCR M' (A, σ.2) := by
  have e : ∀ j, 2 ≤ j → zcA M' j = zcA M j := fun j hj => zcA_eq (fun k h1 h2 => hf k j (by omega) (by omega))
  obtain ⟨h1, ⟨nx, n1, n2, n3⟩, h3, h4, h5, h6⟩ := h
  refine ⟨hA, ⟨nx, n1, by rw [hf 21 0 (by omega) (by omega)]; exact n2, fun n hn => by rw [e _ (by omega)]; exact n3 n hn⟩, by rw [hf 21 0 (by omega) (by omega)]; exact h3, ?_, by rw [hf 24 0 (by omega) (by omega)]; exact h5, ?_⟩
  · intro i hi; rw [e _ (by omega), hf 23 i (by omega) (by omega)]; exact h4 i hi
  · intro q c hq; rw [hf 25 0 (by omega) (by omega)]; exact h6 q c hq
theorem zgn.RR {M M' : zM} {σ : zSg} {A : zA} (hr : zRR M σ) (h : zgn M M') (hA : zrA (M' 27 0) = A) : zRR M' (A, σ.2) := by
  obtain ⟨h1, h2, h3, h4, h5, h6⟩ := hr
  refine ⟨hA, by rw [h.2.1]; exact h2, ?_, ?_, by rw [h.2.2]; exact h5, ?_⟩
  · intro n hn; rw [h.1 29 0 (by omega) (by omega) (by omega) (by omega)]; exact h3 n hn
  · intro i hi; rw [h.1 30 0 (by omega) (by omega) (by omega) (by omega), h.1 31 0 (by omega) (by omega) (by omega) (by omega)]; exact h4 i hi
  · intro q c hq; rw [h.1 32 0 (by omega) (by omega) (by omega) (by omega)]; exact h6 q c hq
theorem zOK.of {A : zA} {σ : zSg} (h : zOK σ) (hA : zok A) : zOK (A, σ.2) := ⟨hA, h.2⟩
theorem zJ.fin {M N M' N' : zM} {σ : zSg} {x : Int32} {A : zA} (h0 : zOK σ) (h1 : zCR M σ) (h2 : zRR N σ) (hA : zok A) (f1 : zgs M M') (a1 : zcA M' 0 = A) (f2 : zgn N N') (a2 : zrA (N' 27 0) = A) : zJ (some (x, M')) (some (x, N')) M N :=
  ⟨x, M', N', (A, σ.2), rfl, rfl, h0.of hA, f1.CR h1 a1, f2.RR h2 a2, f1.hi, f2.lo⟩
/-- an answer that keeps the sky -/
theorem zJ.ans {M N M' N' : zM} {σ : zSg} {x : Int32} (h0 : zOK σ) (h1 : zCR M σ) (h2 : zRR N σ) (f1 : zgs M M') (a1 : zcA M' 0 = σ.1) (f2 : zgn N N') (a2 : zrA (N' 27 0) = σ.1) : zJ (some (x, M')) (some (x, N')) M N := zJ.fin h0 h1 h2 h0.1 f1 a1 f2 a2
theorem zJ.rec {M N : zM} {σ : zSg} {f6 f7 : zM → Option (Int32 × zM)} (h0 : zOK σ) (h1 : zCR M σ) (h2 : zRR N σ) (h : ∀ M N, zOK (zrec σ) → zCR M (zrec σ) → zRR N (zrec σ) → zJ (f6 M) (f7 N) M N) : zJ (zC (fX0_record M 0) fun _ M1 => f6 M1) (zC (fX7_record N) fun _ N1 => f7 N1) M N := by
  obtain ⟨M1, a1, a2, a3⟩ := e0_rec h0 h1
  obtain ⟨N1, b1, b2, b3⟩ := e7_rec h0 h2
  rw [a1, b1, zC_some, zC_some]
  exact (h M1 N1 (zrec_ok h0) a2 b2).mono a3 b3
