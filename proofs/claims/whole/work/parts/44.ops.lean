/-! ===== calls: land, crossing ===== -/
def zdn : Nat → Int32
  | 0 => -1
  | c + 1 => nI c
theorem zdn_step {c : Nat} (h : c < 2 ^ 31) : nI c + (-1) = zdn c := by
  cases c with
  | zero => decide
  | succ c => exact Int32.toInt_inj.mp (by rw [zt_add (nI_toInt h) (show (-1 : Int32).toInt = -1 from rfl) (by omega) (by omega)]; show _ = (nI c).toInt; rw [nI_toInt (by omega)]; omega)
def zlow (f : Nat → Bool) : Nat → Int32 → Int32
  | 0, a => a
  | c + 1, a => zlow f c (if f c then nI c else a)
theorem zlow_none {f : Nat → Bool} : ∀ (c : Nat) (a : Int32), (∀ q, q < c → f q = false) → zlow f c a = a := by
  intro c
  induction c with
  | zero => intro a _; rfl
  | succ c ih =>
    intro a h
    show zlow f c (if f c then nI c else a) = a
    rw [h c (by omega), if_neg (by decide)]
    exact ih a (fun q hq => h q (by omega))
theorem zlow_eq {f : Nat → Bool} {p : Nat} (hp : f p = true) (hl : ∀ q, q < p → f q = false) : ∀ (c : Nat) (a : Int32), p < c → zlow f c a = nI p := by
  intro c
  induction c with
  | zero => intro a h; omega
  | succ c ih =>
    intro a h
    show zlow f c (if f c then nI c else a) = nI p
    by_cases hc : p = c
    · subst hc
      rw [hp, if_pos rfl]
      exact zlow_none p _ hl
    · exact ih _ (by omega)
def zmw (A : zA) (k : Nat) : Nat := zf (fun p m => if A k (12 + p) ≤ A k (12 + m) then m else p) 31 1 0
theorem zmw_spec {A : zA} {k : Nat} : zmw A k < 32 ∧ (∀ q, q < 32 → (A k (12 + q)).toInt ≤ (A k (12 + zmw A k)).toInt) ∧ ∀ q, q < zmw A k → (A k (12 + q)).toInt < (A k (12 + zmw A k)).toInt := by
  refine zf_invk (f := fun p m => if A k (12 + p) ≤ A k (12 + m) then m else p) (P := fun i m => m < i ∧ (∀ q, q < i → (A k (12 + q)).toInt ≤ (A k (12 + m)).toInt) ∧ ∀ q, q < m → (A k (12 + q)).toInt < (A k (12 + m)).toInt) 31 1 0 ⟨by omega, fun q hq => ?_, fun q hq => by omega⟩ fun p h1 h2 m hm => ?_
  · obtain rfl : q = 0 := by omega
    exact Int.le_refl _
  · obtain ⟨m1, m2, m3⟩ := hm
    show (if A k (12 + p) ≤ A k (12 + m) then m else p) < p + 1 ∧ (∀ q, q < p + 1 → (A k (12 + q)).toInt ≤ (A k (12 + (if A k (12 + p) ≤ A k (12 + m) then m else p))).toInt) ∧ ∀ q, q < (if A k (12 + p) ≤ A k (12 + m) then m else p) → (A k (12 + q)).toInt < (A k (12 + (if A k (12 + p) ≤ A k (12 + m) then m else p))).toInt
    by_cases hc : A k (12 + p) ≤ A k (12 + m)
    · rw [if_pos hc]
      rw [zle_i] at hc
      refine ⟨by omega, fun q hq => ?_, m3⟩
      by_cases hq2 : q = p
      · subst hq2; exact hc
      · exact m2 q (by omega)
    · rw [if_neg hc]
      rw [zle_i] at hc
      refine ⟨by omega, fun q hq => ?_, fun q hq => ?_⟩
      · by_cases hq2 : q = p
        · subst hq2; exact Int.le_refl _
        · have := m2 q (by omega); omega
      · have := m2 q (by omega); omega
theorem zgw_mw {A : zA} {k : Nat} (h : ∀ q, q < 32 → 0 ≤ (A k (12 + q)).toInt) : zgw A k = A k (12 + zmw A k) := by
  obtain ⟨m1, m2, m3⟩ := zmw_spec (A := A) (k := k)
  apply Int32.toInt_inj.mp
  have h1 := (zgw_ge (A := A) (k := k) 32 0 0).2 (zmw A k) (by omega) (by omega)
  have h2 : (zgw A k).toInt ≤ (A k (12 + zmw A k)).toInt := by
    rcases zgw_is (A := A) (k := k) 32 0 0 with e | ⟨q, q1, q2, e⟩
    · have e' : zgw A k = 0 := e
      rw [e', Int32_0]; exact h _ m1
    · have e' : zgw A k = A k (12 + q) := e
      rw [e']; exact m2 q (by omega)
  have h3 : (A k (12 + zmw A k)).toInt ≤ (zgw A k).toInt := h1
  omega
theorem l2_most {j k0 : Nat} {k : zM → Int32 → Int32 → Option (Int32 × zM)} {M : zM} (hk : zhk (zcA M j) k0) : ∀ (c p n m : Nat), p + c = 32 → m < 32 → c < n →
    fX2_mostWornPlace_L4 k j (nI k0) n M (nI m) (nI p) = k M (nI (zf (fun p m => if zcA M j k0 (12 + p) ≤ zcA M j k0 (12 + m) then m else p) c p m)) (nI 32) := by
  intro c
  induction c with
  | zero =>
    intro p n m hp hm hn
    obtain ⟨n, rfl⟩ : ∃ q, n = q + 1 := ⟨n - 1, by omega⟩
    obtain rfl : p = 32 := by omega
    rfl
  | succ c ih =>
    intro p n m hp hm hn
    obtain ⟨n, rfl⟩ : ∃ q, n = q + 1 := ⟨n - 1, by omega⟩
    unfold fX2_mostWornPlace_L4
    have hc : ¬ (32 : Int32) ≤ nI p := nI_ge (a := p) (b := 32) (by omega) (by omega)
    simp only [if_neg hc, e2_wearAt hk (show p < 32 by omega), e2_wearAt hk hm, zC_some, zL_eq, nI_1]
    show _ = k M (nI (zf _ c (p + 1) (if zcA M j k0 (12 + p) ≤ zcA M j k0 (12 + m) then m else p))) (nI 32)
    by_cases h : zcA M j k0 (12 + p) ≤ zcA M j k0 (12 + m)
    · rw [if_pos h, if_pos h]; exact ih (p + 1) n m (by omega) hm (by omega)
    · rw [if_neg h, if_neg h]; exact ih (p + 1) n p (by omega) (by omega) (by omega)
theorem e2_most {M : zM} {j k : Nat} (hk : zhk (zcA M j) k) : fX2_mostWornPlace M j (nI k) = some (nI (zmw (zcA M j) k), M) := by
  unfold fX2_mostWornPlace zmw
  rw [show (0 : Int32) = nI 0 from rfl, show (1 : Int32) = nI 1 from rfl]
  exact l2_most hk (k := fun M27 v28 v29 => some (v28, M27)) 31 1 2000 0 (by omega) (by omega) (by omega)
theorem l7_place {k0 : Nat} (hk : k0 < 6) {g : Int32} {k : zM → Int32 → Int32 → Option (Int32 × zM)} {M : zM} : ∀ (c n : Nat) (a : Int32), c ≤ 32 → c < n →
    fX7_placeOfGreatest_L12 k (nI k0) g n M a (zdn c) = k M (zlow (fun p => decide (zrA (M 27 0) k0 (12 + p) = g)) c a) (-1) := by
  intro c
  induction c with
  | zero =>
    intro n a hc hn
    obtain ⟨n, rfl⟩ : ∃ q, n = q + 1 := ⟨n - 1, by omega⟩
    rfl
  | succ c ih =>
    intro n a hc hn
    obtain ⟨n, rfl⟩ : ∃ q, n = q + 1 := ⟨n - 1, by omega⟩
    unfold fX7_placeOfGreatest_L12
    have hc0 : ¬ nI c < 0 := nI_pos (by omega)
    have ez : zdn (c + 1) = nI c := rfl
    rw [ez, if_neg hc0, z12, e7_part hk (show 12 + c < 44 by omega), zC_some, zL_eq, zL_eq, zdn_step (by omega)]
    show _ = k M (zlow _ c (if decide (zrA (M 27 0) k0 (12 + c) = g) = true then nI c else a)) (-1)
    by_cases h : zrA (M 27 0) k0 (12 + c) = g
    · rw [if_pos h, if_pos (by simp [h])]; exact ih n _ (by omega) (by omega)
    · rw [if_neg h, if_neg (by simp [h])]; exact ih n _ (by omega) (by omega)
theorem e7_place {N : zM} {k : Nat} (hk : k < 6) (hz : zkite (zrA (N 27 0)) k) : fX7_placeOfGreatest N (nI k) = some (nI (zmw (zrA (N 27 0)) k), N) := by
  unfold fX7_placeOfGreatest
  rw [e7_great hk, zC_some, show (31 : Int32) = zdn 32 from rfl, l7_place hk 32 2000 0 (by omega) (by omega)]
  have hg := zgw_mw (A := zrA (N 27 0)) (k := k) (fun q hq => by obtain ⟨_, _, _, _, _, _, _, _, _, _, _, a12, _⟩ := hz; exact (a12 q hq).1)
  obtain ⟨m1, m2, m3⟩ := zmw_spec (A := zrA (N 27 0)) (k := k)
  rw [zlow_eq (p := zmw (zrA (N 27 0)) k) (by simp [hg]) (fun q hq => by
    have := m3 q hq
    refine decide_eq_false fun h => ?_
    rw [hg] at h
    rw [h] at this; omega) 32 0 m1]
theorem j_land {M N : zM} {σ : zSg} {v : Int32} (h0 : zOK σ) (h1 : zCR M σ) (h2 : zRR N σ) : zJ (fX6_land M v) (fX7_land N v) M N := by
  unfold fX6_land fX7_land
  rw [gH h0 h1, gK h0 h2, zC_some, zC_some]
  refine zJ.gd h0 h1 h2 fun hw => ?_
  obtain ⟨k, hk, hk6, rfl⟩ := zhas_nI hw h0.1.2.1
  rw [gF h0 h1 hk6, gG h0 h2 hk, zC_some, zC_some]
  refine zJ.gd h0 h1 h2 fun _ => ?_
  refine zJ.rec h0 h1 h2 fun M1 N1 g0 g1 g2 => ?_
  have c1 : zcA (zw M1 10 0 k 2) 0 = zp σ.1 k 8 2 := by rw [zc8 hk6, g1.1]; rfl
  have c2 : zrA ((zw N1 27 0 (44 * k + 8 + 4) 2) 27 0) = zp σ.1 k 8 2 := by rw [zrz (p := 8) hk6 (by omega), g2.1]; rfl
  have hz : zhk (zcA (zw M1 10 0 k 2) 0) k := by rw [c1]; exact (h0.1.hk hk).of (zp_ne (by omega))
  rw [zI_eq (zix_nI hk6 (by omega)), zL_eq, zN_nI (by omega), e2_most hz, zC_some, e2_wearAt hz zmw_spec.1, zC_some, e7_s8 hk6, zC_some, e7_great hk6, zC_some, c1, c2]
  obtain ⟨a0, a1, a2, a3, a4, a5, a6, a8, a9, a10, a11, a12, a13⟩ := h0.1.2.2 k hk
  have e : ∀ p, p ≠ 8 → zp σ.1 k 8 2 k p = σ.1 k p := fun p hp => zp_np hp
  rw [zgw_mw (A := zp σ.1 k 8 2) (k := k) (fun q hq => by rw [e _ (by omega)]; exact (a12 q hq).1)]
  refine zJ.fin (A := zp σ.1 k 8 2) g0 g1 g2 (zok_row (k := k) h0.1 (fun k' p h => zp_nk h) hk6 fun _ _ => ?_) (zfk.gs (j := 0) (by omega) (zfk.w (by omega))) c1 zgn.w27 c2
  exact ⟨by rw [e 0 (by omega)]; exact a0, by rw [e 1 (by omega)]; exact a1, by rw [e 2 (by omega)]; exact a2, by rw [e 3 (by omega)]; exact a3, by rw [e 4 (by omega)]; exact a4, by rw [e 5 (by omega)]; exact a5, by rw [e 6 (by omega)]; exact a6, by rw [zp_at]; decide, by rw [e 9 (by omega)]; exact a9, by rw [e 10 (by omega)]; exact a10, by rw [e 11 (by omega)]; exact a11, fun q hq => by rw [e (12 + q) (by omega)]; exact a12 q hq, by rw [zp_at]; exact fun h => absurd h (by decide)⟩
/-! the notes of a weave -/
theorem l5_noteOf {M : zM} {w a b : Nat} {C : zA} {L : List (Nat × Nat)} (ha : a < 6) (hb : b < 6) (hw : zwv M w C L) (hL : ∀ q, q ∈ L → q.1 < 6 ∧ q.2 < 6) {k : zM → Int32 → Option (Int32 × zM)} : ∀ (c i n : Nat), i + c = L.length → c < n →
    (∃ i', i' < L.length ∧ L[i']? = some (a, b) ∧ fX5_noteOf_L2 k w (nI a) (nI b) n M (nI i) = some (nI i', M)) ∨ ((∀ i', i ≤ i' → L[i']? ≠ some (a, b)) ∧ fX5_noteOf_L2 k w (nI a) (nI b) n M (nI i) = k M (nI L.length)) := by
  obtain ⟨w1, w2, w3⟩ := hw
  intro c
  induction c with
  | zero =>
    intro i n hi hn
    obtain ⟨n, rfl⟩ : ∃ q, n = q + 1 := ⟨n - 1, by omega⟩
    obtain rfl : i = L.length := by omega
    right
    refine ⟨fun i' h => by rw [List.getElem?_eq_none h]; simp, ?_⟩
    unfold fX5_noteOf_L2
    rw [w1, if_pos (by rw [zle (by omega) (by omega)]; omega)]
  | succ c ih =>
    intro i n hi hn
    obtain ⟨n, rfl⟩ : ∃ q, n = q + 1 := ⟨n - 1, by omega⟩
    obtain ⟨q, hq⟩ : ∃ q, L[i]? = some q := ⟨L[i]'(by omega), List.getElem?_eq_getElem (by omega)⟩
    obtain ⟨r16, r17, _, _⟩ := w3 i q hq
    obtain ⟨q1, q2⟩ := hL q (List.mem_of_getElem? hq)
    unfold fX5_noteOf_L2
    rw [w1, if_neg (by rw [zle (by omega) (by omega)]; omega), if_neg (by rw [show (30 : Int32) = nI 30 from rfl, zle (by omega) (by omega)]; omega), zI_eq (zix_nI (by omega) (by omega)), zI_eq (zix_nI (by omega) (by omega)), zN_nI (by omega), r16, r17, zL_eq, nI_1]
    by_cases h1 : q.1 = a
    · rw [if_pos (by rw [h1])]
      by_cases h2 : q.2 = b
      · rw [if_pos (by rw [h2])]
        left
        exact ⟨i, by omega, by rw [hq, ← h1, ← h2], rfl⟩
      · rw [if_neg (by rw [zeq (by omega) (by omega)]; exact h2)]
        rcases ih (i + 1) n (by omega) (by omega) with h | ⟨h3, h4⟩
        · exact Or.inl h
        · refine Or.inr ⟨fun i' hi' => ?_, h4⟩
          by_cases hii : i' = i
          · rw [hii, hq]; intro h; exact h2 (by rw [Option.some.inj h])
          · exact h3 i' (by omega)
    · rw [if_neg (by rw [zeq (by omega) (by omega)]; exact h1)]
      rcases ih (i + 1) n (by omega) (by omega) with h | ⟨h3, h4⟩
      · exact Or.inl h
      · refine Or.inr ⟨fun i' hi' => ?_, h4⟩
        by_cases hii : i' = i
        · rw [hii, hq]; intro h; exact h1 (by rw [Option.some.inj h])
        · exact h3 i' (by omega)
theorem e5_noteOf {M : zM} {w a b : Nat} {C : zA} {L : List (Nat × Nat)} {t : Bool} (ha : a < 6) (hb : b < 6) (hw : zwv M w C L) (hL : ∀ q, q ∈ L → q.1 < 6 ∧ q.2 < 6) (ht : (a, b) ∈ L ↔ t = true) :
    (t = true ∧ ∃ i, i < 30 ∧ fX5_noteOf M w (nI a) (nI b) = some (nI i, M) ∧ M 18 w i = nI (zpl C a b) ∧ M 19 w i = zb (zst C a b)) ∨ (t = false ∧ fX5_noteOf M w (nI a) (nI b) = some (-6, M)) := by
  unfold fX5_noteOf
  rw [show (0 : Int32) = nI 0 from rfl]
  have h30 := hw.2.1
  rcases l5_noteOf ha hb hw hL (k := fun M23 v24 => some ((-6), M23)) L.length 0 2000 (by omega) (by omega) with ⟨i, h1, h2, h3⟩ | ⟨h1, h2⟩
  · obtain ⟨_, _, r18, r19⟩ := hw.2.2 i (a, b) h2
    exact Or.inl ⟨ht.mp (List.mem_of_getElem? h2), i, by omega, h3, r18, r19⟩
  · refine Or.inr ⟨?_, h2⟩
    cases t with
    | false => rfl
    | true =>
      obtain ⟨i, hi⟩ := List.getElem?_of_mem (ht.mpr rfl)
      exact absurd hi (h1 i (by omega))
theorem n6_ne {i : Nat} (h : i < 30) : ¬ nI i = -6 := by
  intro e
  have := congrArg Int32.toInt e
  rw [nI_toInt (by omega), show (-6 : Int32).toInt = -6 from rfl] at this
  omega
theorem e5_cross {M : zM} {w a b : Nat} {C : zA} {L : List (Nat × Nat)} {t : Bool} (ha : a < 6) (hb : b < 6) (hw : zwv M w C L) (hL : ∀ q, q ∈ L → q.1 < 6 ∧ q.2 < 6) (ht : (a, b) ∈ L ↔ t = true) : fX5_cross M w (nI a) (nI b) = some (zb t, M) := by
  unfold fX5_cross
  rcases e5_noteOf ha hb hw hL ht with ⟨h1, i, h2, h3, _⟩ | ⟨h1, h2⟩
  · rw [h3, zC_some, if_neg (n6_ne h2), h1]; rfl
  · rw [h2, zC_some, if_pos rfl, h1]; rfl
theorem e5_placeOn {M : zM} {w a b : Nat} {C : zA} {L : List (Nat × Nat)} {t : Bool} (ha : a < 6) (hb : b < 6) (hw : zwv M w C L) (hL : ∀ q, q ∈ L → q.1 < 6 ∧ q.2 < 6) (ht : (a, b) ∈ L ↔ t = true) : fX5_placeOn M w (nI a) (nI b) = some (if t = true then nI (zpl C a b) else -6, M) := by
  unfold fX5_placeOn
  rcases e5_noteOf ha hb hw hL ht with ⟨h1, i, h2, h3, h4, _⟩ | ⟨h1, h2⟩
  · rw [h3, zC_some, if_neg (n6_ne h2), zI_eq (zix_nI h2 (by omega)), zN_nI (by omega), h4, if_pos h1]
  · rw [h2, zC_some, if_pos rfl, h1]; rfl
theorem e5_isSteep {M : zM} {w a b : Nat} {C : zA} {L : List (Nat × Nat)} {t : Bool} (ha : a < 6) (hb : b < 6) (hw : zwv M w C L) (hL : ∀ q, q ∈ L → q.1 < 6 ∧ q.2 < 6) (ht : (a, b) ∈ L ↔ t = true) : fX5_isSteep M w (nI a) (nI b) = some (zb (t && zst C a b), M) := by
  unfold fX5_isSteep
  rcases e5_noteOf ha hb hw hL ht with ⟨h1, i, h2, h3, _, h5⟩ | ⟨h1, h2⟩
  · rw [h3, zC_some, if_neg (n6_ne h2), zI_eq (zix_nI h2 (by omega)), zN_nI (by omega), h5, h1, Bool.true_and]
    cases zst C a b <;> rfl
  · rw [h2, zC_some, if_pos rfl, h1]; rfl
