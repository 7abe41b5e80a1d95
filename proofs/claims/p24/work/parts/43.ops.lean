theorem gH {M : zM} {σ : zSg} {v : Int32} (h0 : zOK σ) (h1 : zCR M σ) : fX2_has M 0 v = some (zb (zhas σ.1 v), M) := by
  have := e2_has (M := M) (j := 0) (v := v) (by rw [h1.1]; exact h0.1)
  rw [h1.1] at this; exact this
theorem zCR.hk {M : zM} {σ : zSg} {k : Nat} (h1 : zCR M σ) (h0 : zOK σ) (hk : k < zKn σ.1) : zhk (zcA M 0) k := by rw [h1.1]; exact h0.1.hk hk
theorem gF {M : zM} {σ : zSg} {k : Nat} (h0 : zOK σ) (h1 : zCR M σ) (hk : k < 6) : fX2_isFlying M 0 (nI k) = some (zb (zfly σ.1 k), M) := by
  have := e2_fly (M := M) (j := 0) (k := k) (by rw [h1.1]; exact h0.1) hk
  rw [h1.1] at this; exact this
theorem zkite_congr {A B : zA} {k : Nat} (e : ∀ p, B k p = A k p) (h : zkite A k) : zkite B k := by
  have e' : B k = A k := funext e
  unfold zkite at h ⊢
  rw [e']; exact h
theorem zok_row {A B : zA} {k : Nat} (h : zok A) (hr : ∀ k' p, k' ≠ k → B k' p = A k' p) (hk : k < 6) (hz : k < zKn A → zkite A k → zkite B k) : zok B := by
  have e : zKn B = zKn A := by unfold zKn; rw [hr 6 0 (by omega)]
  refine ⟨by rw [e, hr 6 0 (by omega)]; exact h.1, by rw [e]; exact h.2.1, fun k' hk' => ?_⟩
  rw [e] at hk'
  by_cases hc : k' = k
  · subst hc; exact hz hk' (h.2.2 k' hk')
  · exact zkite_congr (fun p => hr k' p hc) (h.2.2 k' hk')
theorem zfk.w {M : zM} {k j s : Nat} {v : Int32} (h : 1 ≤ k ∧ k ≤ 14) : zfk j M (zw M k j s v) := fun k' i' h' => zw_ne (by omega)
def zwhy (A : zA) (v a b : Int32) : Int32 := if zhas A v then (if zwin a (-3) 3 then (if zwin b (-3) 3 then (if zfly A (zN v) then 0 else -5) else -2) else -2) else -1
theorem i_m3 : (-3 : Int32).toInt = -3 := rfl
theorem i_3 : (3 : Int32).toInt = 3 := rfl
theorem e6_why {M : zM} {σ : zSg} {v a b : Int32} (h0 : zOK σ) (h1 : zCR M σ) : fX6_errorOfOrder M v a b = some (zwhy σ.1 v a b, M) := by
  unfold fX6_errorOfOrder zwhy
  rw [gH h0 h1, zC_some]
  cases hh : zhas σ.1 v with
  | false => rfl
  | true =>
    obtain ⟨k, hk, hk6, rfl⟩ := zhas_nI hh h0.1.2.1
    rw [if_neg (by decide), if_pos rfl, e2_within, zC_some, i_m3, i_3]
    cases ha : zwin a (-3) 3 with
    | false => rfl
    | true =>
      rw [if_neg (by decide), if_pos rfl, e2_within, zC_some, i_m3, i_3]
      cases hb : zwin b (-3) 3 with
      | false => rfl
      | true =>
        rw [if_neg (by decide), if_pos rfl, gF h0 h1 hk6, zC_some, zN_nI (by omega)]
        cases hf : zfly σ.1 k <;> rfl
theorem zwhy_0 {A : zA} {v a b : Int32} (h : zwhy A v a b = 0) (hK : zKn A ≤ 6) : ∃ k, k < zKn A ∧ k < 6 ∧ v = nI k ∧ zwin a (-3) 3 = true ∧ zwin b (-3) 3 = true ∧ zfly A k = true := by
  unfold zwhy at h
  by_cases h1 : zhas A v = true
  · rw [if_pos h1] at h
    by_cases h2 : zwin a (-3) 3 = true
    · rw [if_pos h2] at h
      by_cases h3 : zwin b (-3) 3 = true
      · rw [if_pos h3] at h
        by_cases h4 : zfly A (zN v) = true
        · obtain ⟨k, hk, hk6, rfl⟩ := zhas_nI h1 hK
          rw [zN_nI (by omega)] at h4
          exact ⟨k, hk, hk6, rfl, h2, h3, h4⟩
        · rw [if_neg h4] at h; exact absurd h (by decide)
      · rw [if_neg h3] at h; exact absurd h (by decide)
    · rw [if_neg h2] at h; exact absurd h (by decide)
  · rw [if_neg h1] at h; exact absurd h (by decide)
theorem zwhy_n {A : zA} {v a b : Int32} (h : ¬ zwhy A v a b = 0) : ¬ (0 : Int32) ≤ zwhy A v a b := by
  unfold zwhy at h ⊢
  split
  · split
    · split
      · split
        · rename_i h1 h2 h3 h4
          rw [if_pos h1, if_pos h2, if_pos h3, if_pos h4] at h
          exact absurd rfl h
        · decide
      · decide
    · decide
  · decide
def ztn3 (A : zA) (k : Nat) (a b : Int32) : zA := zp (zp A k 3 a) k 4 b
def ztv (A : zA) (k : Nat) (a b : Int32) : Int32 := 10 * zabs (a - A k 3) + zabs (b - A k 4)
theorem e2_turn {M : zM} {j k : Nat} {a b : Int32} (hk : k < 6) : ∃ M', fX2_turn M j (nI k) a b = some (ztv (zcA M j) k a b, M') ∧ zcA M' j = ztn3 (zcA M j) k a b ∧ zfk j M M' := by
  unfold fX2_turn ztv ztn3
  simp only [zI_eq (zix_nI hk (show 6 < 2 ^ 31 by omega)), zL_eq, zN_nI (show k < 2 ^ 31 by omega), zr3 hk, zr4 hk]
  exact ⟨_, rfl, by rw [zc4 hk, zc3 hk], (zfk.w (by omega)).trans (zfk.w (by omega))⟩
theorem zabs_sym {x y : Int32} (hx : -1000 ≤ x.toInt ∧ x.toInt ≤ 1000) (hy : -1000 ≤ y.toInt ∧ y.toInt ≤ 1000) : zabs (x - y) = zabs (y - x) := by
  rw [zabs_nI (zt_sub (x := x) (y := y) rfl rfl (by omega) (by omega)) (by omega), zabs_nI (zt_sub (x := y) (y := x) rfl rfl (by omega) (by omega)) (by omega)]
  congr 1
  omega
theorem ztn3_kite {A : zA} {k : Nat} {a b : Int32} (ha : zwin a (-3) 3 = true) (hb : zwin b (-3) 3 = true) (hz : zkite A k) : zkite (ztn3 A k a b) k := by
  rw [zwin_iff] at ha hb
  have e : ∀ p, p ≠ 3 → p ≠ 4 → ztn3 A k a b k p = A k p := fun p hp hq => by unfold ztn3; rw [zp_np hq, zp_np hp]
  have e3 : ztn3 A k a b k 3 = a := by unfold ztn3; rw [zp_np (by omega), zp_at]
  have e4 : ztn3 A k a b k 4 = b := by unfold ztn3; rw [zp_at]
  obtain ⟨a0, a1, a2, a3, a4, a5, a6, a8, a9, a10, a11, a12, a13⟩ := hz
  exact ⟨by rw [e 0 (by omega) (by omega)]; exact a0, by rw [e 1 (by omega) (by omega)]; exact a1, by rw [e 2 (by omega) (by omega)]; exact a2, by rw [e3]; exact ha, by rw [e4]; exact hb, by rw [e 5 (by omega) (by omega)]; exact a5, by rw [e 6 (by omega) (by omega)]; exact a6, by rw [e 8 (by omega) (by omega)]; exact a8, by rw [e 9 (by omega) (by omega)]; exact a9, by rw [e 10 (by omega) (by omega)]; exact a10, by rw [e 11 (by omega) (by omega)]; exact a11, fun q hq => by rw [e (12 + q) (by omega) (by omega)]; exact a12 q hq, by rw [e 8 (by omega) (by omega), e 6 (by omega) (by omega)]; exact fun h8 q hq => by rw [e (12 + q) (by omega) (by omega)]; exact a13 h8 q hq⟩
theorem ztn3_ok {A : zA} {k : Nat} {a b : Int32} (h : zok A) (hk : k < 6) (ha : zwin a (-3) 3 = true) (hb : zwin b (-3) 3 = true) : zok (ztn3 A k a b) :=
  zok_row (k := k) h (fun k' p hne => by unfold ztn3; rw [zp_nk hne, zp_nk hne]) hk fun _ hz => ztn3_kite ha hb hz
def zdn : Nat → Int32
  | 0 => -1
  | c + 1 => nI c
theorem zdn_step {c : Nat} (h : c < 2 ^ 31) : nI c + (-1) = zdn c := by
  cases c with
  | zero => decide
  | succ c => exact Int32.toInt_inj.mp (by rw [zt_add (nI_toInt h) (show (-1 : Int32).toInt = -1 from rfl) (by omega) (by omega)]; show _ = (nI c).toInt; rw [nI_toInt (by omega)]; omega)
def zlow (f : Nat → Bool) : Nat → Int32 → Int32
  | 0, a => a
  | c + 1, a => zlow f c (if f c then nI c else a)
theorem zlow_none {f : Nat → Bool} : ∀ (c : Nat) (a : Int32), (∀ q, q < c → f q = false) → zlow f c a = a := by
  intro c
  induction c with
  | zero => intro a _; rfl
  | succ c ih =>
    intro a h
    show zlow f c (if f c then nI c else a) = a
    rw [h c (by omega), if_neg (by decide)]
    exact ih a (fun q hq => h q (by omega))
theorem zlow_eq {f : Nat → Bool} {p : Nat} (hp : f p = true) (hl : ∀ q, q < p → f q = false) : ∀ (c : Nat) (a : Int32), p < c → zlow f c a = nI p := by
  intro c
  induction c with
  | zero => intro a h; omega
  | succ c ih =>
    intro a h
    show zlow f c (if f c then nI c else a) = nI p
    by_cases hc : p = c
    · subst hc
      rw [hp, if_pos rfl]
      exact zlow_none p _ hl
    · exact ih _ (by omega)
def zmw (A : zA) (k : Nat) : Nat := zf (fun p m => if A k (12 + p) ≤ A k (12 + m) then m else p) 31 1 0
theorem zmw_spec {A : zA} {k : Nat} : zmw A k < 32 ∧ (∀ q, q < 32 → (A k (12 + q)).toInt ≤ (A k (12 + zmw A k)).toInt) ∧ ∀ q, q < zmw A k → (A k (12 + q)).toInt < (A k (12 + zmw A k)).toInt := by
  refine zf_invk (f := fun p m => if A k (12 + p) ≤ A k (12 + m) then m else p) (P := fun i m => m < i ∧ (∀ q, q < i → (A k (12 + q)).toInt ≤ (A k (12 + m)).toInt) ∧ ∀ q, q < m → (A k (12 + q)).toInt < (A k (12 + m)).toInt) 31 1 0 ⟨by omega, fun q hq => ?_, fun q hq => by omega⟩ fun p h1 h2 m hm => ?_
  · obtain rfl : q = 0 := by omega
    exact Int.le_refl _
  · obtain ⟨m1, m2, m3⟩ := hm
    show (if A k (12 + p) ≤ A k (12 + m) then m else p) < p + 1 ∧ (∀ q, q < p + 1 → (A k (12 + q)).toInt ≤ (A k (12 + (if A k (12 + p) ≤ A k (12 + m) then m else p))).toInt) ∧ ∀ q, q < (if A k (12 + p) ≤ A k (12 + m) then m else p) → (A k (12 + q)).toInt < (A k (12 + (if A k (12 + p) ≤ A k (12 + m) then m else p))).toInt
    by_cases hc : A k (12 + p) ≤ A k (12 + m)
    · rw [if_pos hc]
      rw [zle_i] at hc
      refine ⟨by omega, fun q hq => ?_, m3⟩
      by_cases hq2 : q = p
      · subst hq2; exact hc
      · exact m2 q (by omega)
    · rw [if_neg hc]
      rw [zle_i] at hc
      refine ⟨by omega, fun q hq => ?_, fun q hq => ?_⟩
      · by_cases hq2 : q = p
        · subst hq2; exact Int.le_refl _
        · have := m2 q (by omega); omega
      · have := m2 q (by omega); omega
theorem zgw_mw {A : zA} {k : Nat} (h : ∀ q, q < 32 → 0 ≤ (A k (12 + q)).toInt) : zgw A k = A k (12 + zmw A k) := by
  obtain ⟨m1, m2, m3⟩ := zmw_spec (A := A) (k := k)
  apply Int32.toInt_inj.mp
  have h1 := (zgw_ge (A := A) (k := k) 32 0 0).2 (zmw A k) (by omega) (by omega)
  have h2 : (zgw A k).toInt ≤ (A k (12 + zmw A k)).toInt := by
    rcases zgw_is (A := A) (k := k) 32 0 0 with e | ⟨q, q1, q2, e⟩
    · have e' : zgw A k = 0 := e
      rw [e', Int32_0]; exact h _ m1
    · have e' : zgw A k = A k (12 + q) := e
      rw [e']; exact m2 q (by omega)
  have h3 : (A k (12 + zmw A k)).toInt ≤ (zgw A k).toInt := h1
  omega
theorem l2_most {j k0 : Nat} {k : zM → Int32 → Int32 → Option (Int32 × zM)} {M : zM} (hk : zhk (zcA M j) k0) : ∀ (c p n m : Nat), p + c = 32 → m < 32 → c < n →
    fX2_mostWornPlace_L4 k j (nI k0) n M (nI m) (nI p) = k M (nI (zf (fun p m => if zcA M j k0 (12 + p) ≤ zcA M j k0 (12 + m) then m else p) c p m)) (nI 32) := by
  intro c
  induction c with
  | zero =>
    intro p n m hp hm hn
    obtain ⟨n, rfl⟩ : ∃ q, n = q + 1 := ⟨n - 1, by omega⟩
    obtain rfl : p = 32 := by omega
    rfl
  | succ c ih =>
    intro p n m hp hm hn
    obtain ⟨n, rfl⟩ : ∃ q, n = q + 1 := ⟨n - 1, by omega⟩
    unfold fX2_mostWornPlace_L4
    have hc : ¬ (32 : Int32) ≤ nI p := nI_ge (a := p) (b := 32) (by omega) (by omega)
    simp only [if_neg hc, e2_wearAt hk (show p < 32 by omega), e2_wearAt hk hm, zC_some, zL_eq, nI_1]
    show _ = k M (nI (zf _ c (p + 1) (if zcA M j k0 (12 + p) ≤ zcA M j k0 (12 + m) then m else p))) (nI 32)
    by_cases h : zcA M j k0 (12 + p) ≤ zcA M j k0 (12 + m)
    · rw [if_pos h, if_pos h]; exact ih (p + 1) n m (by omega) hm (by omega)
    · rw [if_neg h, if_neg h]; exact ih (p + 1) n p (by omega) (by omega) (by omega)
theorem e2_most {M : zM} {j k : Nat} (hk : zhk (zcA M j) k) : fX2_mostWornPlace M j (nI k) = some (nI (zmw (zcA M j) k), M) := by
  unfold fX2_mostWornPlace zmw
  rw [show (0 : Int32) = nI 0 from rfl, show (1 : Int32) = nI 1 from rfl]
  exact l2_most hk (k := fun M27 v28 v29 => some (v28, M27)) 31 1 2000 0 (by omega) (by omega) (by omega)
theorem l5_noteOf {M : zM} {w a b : Nat} {C : zA} {L : List (Nat × Nat)} (ha : a < 6) (hb : b < 6) (hw : zwv M w C L) (hL : ∀ q, q ∈ L → q.1 < 6 ∧ q.2 < 6) {k : zM → Int32 → Option (Int32 × zM)} : ∀ (c i n : Nat), i + c = L.length → c < n →
    (∃ i', i' < L.length ∧ L[i']? = some (a, b) ∧ fX5_noteOf_L2 k w (nI a) (nI b) n M (nI i) = some (nI i', M)) ∨ ((∀ i', i ≤ i' → L[i']? ≠ some (a, b)) ∧ fX5_noteOf_L2 k w (nI a) (nI b) n M (nI i) = k M (nI L.length)) := by
  obtain ⟨w1, w2, w3⟩ := hw
  intro c
  induction c with
  | zero =>
    intro i n hi hn
    obtain ⟨n, rfl⟩ : ∃ q, n = q + 1 := ⟨n - 1, by omega⟩
    obtain rfl : i = L.length := by omega
    right
    refine ⟨fun i' h => by rw [List.getElem?_eq_none h]; simp, ?_⟩
    unfold fX5_noteOf_L2
    rw [w1, if_pos (by rw [zle (by omega) (by omega)]; omega)]
  | succ c ih =>
    intro i n hi hn
    obtain ⟨n, rfl⟩ : ∃ q, n = q + 1 := ⟨n - 1, by omega⟩
    obtain ⟨q, hq⟩ : ∃ q, L[i]? = some q := ⟨L[i]'(by omega), List.getElem?_eq_getElem (by omega)⟩
    obtain ⟨r16, r17, _, _⟩ := w3 i q hq
    obtain ⟨q1, q2⟩ := hL q (List.mem_of_getElem? hq)
    unfold fX5_noteOf_L2
    rw [w1, if_neg (by rw [zle (by omega) (by omega)]; omega), if_neg (by rw [show (30 : Int32) = nI 30 from rfl, zle (by omega) (by omega)]; omega), zI_eq (zix_nI (by omega) (by omega)), zI_eq (zix_nI (by omega) (by omega)), zN_nI (by omega), r16, r17, zL_eq, nI_1]
    by_cases h1 : q.1 = a
    · rw [if_pos (by rw [h1])]
      by_cases h2 : q.2 = b
      · rw [if_pos (by rw [h2])]
        left
        exact ⟨i, by omega, by rw [hq, ← h1, ← h2], rfl⟩
      · rw [if_neg (by rw [zeq (by omega) (by omega)]; exact h2)]
        rcases ih (i + 1) n (by omega) (by omega) with h | ⟨h3, h4⟩
        · exact Or.inl h
        · refine Or.inr ⟨fun i' hi' => ?_, h4⟩
          by_cases hii : i' = i
          · rw [hii, hq]; intro h; exact h2 (by rw [Option.some.inj h])
          · exact h3 i' (by omega)
    · rw [if_neg (by rw [zeq (by omega) (by omega)]; exact h1)]
      rcases ih (i + 1) n (by omega) (by omega) with h | ⟨h3, h4⟩
      · exact Or.inl h
      · refine Or.inr ⟨fun i' hi' => ?_, h4⟩
        by_cases hii : i' = i
        · rw [hii, hq]; intro h; exact h1 (by rw [Option.some.inj h])
        · exact h3 i' (by omega)
theorem e5_noteOf {M : zM} {w a b : Nat} {C : zA} {L : List (Nat × Nat)} {t : Bool} (ha : a < 6) (hb : b < 6) (hw : zwv M w C L) (hL : ∀ q, q ∈ L → q.1 < 6 ∧ q.2 < 6) (ht : (a, b) ∈ L ↔ t = true) :
    (t = true ∧ ∃ i, i < 30 ∧ fX5_noteOf M w (nI a) (nI b) = some (nI i, M) ∧ M 18 w i = nI (zpl C a b) ∧ M 19 w i = zb (zst C a b)) ∨ (t = false ∧ fX5_noteOf M w (nI a) (nI b) = some (-6, M)) := by
  unfold fX5_noteOf
  rw [show (0 : Int32) = nI 0 from rfl]
  have h30 := hw.2.1
  rcases l5_noteOf ha hb hw hL (k := fun M23 v24 => some ((-6), M23)) L.length 0 2000 (by omega) (by omega) with ⟨i, h1, h2, h3⟩ | ⟨h1, h2⟩
  · obtain ⟨_, _, r18, r19⟩ := hw.2.2 i (a, b) h2
    exact Or.inl ⟨ht.mp (List.mem_of_getElem? h2), i, by omega, h3, r18, r19⟩
  · refine Or.inr ⟨?_, h2⟩
    cases t with
    | false => rfl
    | true =>
      obtain ⟨i, hi⟩ := List.getElem?_of_mem (ht.mpr rfl)
      exact absurd hi (h1 i (by omega))
theorem n6_ne {i : Nat} (h : i < 30) : ¬ nI i = -6 := by
  intro e
  have := congrArg Int32.toInt e
  rw [nI_toInt (by omega), show (-6 : Int32).toInt = -6 from rfl] at this
  omega
theorem e5_cross {M : zM} {w a b : Nat} {C : zA} {L : List (Nat × Nat)} {t : Bool} (ha : a < 6) (hb : b < 6) (hw : zwv M w C L) (hL : ∀ q, q ∈ L → q.1 < 6 ∧ q.2 < 6) (ht : (a, b) ∈ L ↔ t = true) : fX5_cross M w (nI a) (nI b) = some (zb t, M) := by
  unfold fX5_cross
  rcases e5_noteOf ha hb hw hL ht with ⟨h1, i, h2, h3, _⟩ | ⟨h1, h2⟩
  · rw [h3, zC_some, if_neg (n6_ne h2), h1]; rfl
  · rw [h2, zC_some, if_pos rfl, h1]; rfl
theorem e5_placeOn {M : zM} {w a b : Nat} {C : zA} {L : List (Nat × Nat)} {t : Bool} (ha : a < 6) (hb : b < 6) (hw : zwv M w C L) (hL : ∀ q, q ∈ L → q.1 < 6 ∧ q.2 < 6) (ht : (a, b) ∈ L ↔ t = true) : fX5_placeOn M w (nI a) (nI b) = some (if t = true then nI (zpl C a b) else -6, M) := by
  unfold fX5_placeOn
  rcases e5_noteOf ha hb hw hL ht with ⟨h1, i, h2, h3, h4, _⟩ | ⟨h1, h2⟩
  · rw [h3, zC_some, if_neg (n6_ne h2), zI_eq (zix_nI h2 (by omega)), zN_nI (by omega), h4, if_pos h1]
  · rw [h2, zC_some, if_pos rfl, h1]; rfl
theorem e5_isSteep {M : zM} {w a b : Nat} {C : zA} {L : List (Nat × Nat)} {t : Bool} (ha : a < 6) (hb : b < 6) (hw : zwv M w C L) (hL : ∀ q, q ∈ L → q.1 < 6 ∧ q.2 < 6) (ht : (a, b) ∈ L ↔ t = true) : fX5_isSteep M w (nI a) (nI b) = some (zb (t && zst C a b), M) := by
  unfold fX5_isSteep
  rcases e5_noteOf ha hb hw hL ht with ⟨h1, i, h2, h3, _, h5⟩ | ⟨h1, h2⟩
  · rw [h3, zC_some, if_neg (n6_ne h2), zI_eq (zix_nI h2 (by omega)), zN_nI (by omega), h5, h1, Bool.true_and]
    cases zst C a b <;> rfl
  · rw [h2, zC_some, if_pos rfl, h1]; rfl

def zxa (A : zA) (k o n : Nat) : Int32 := match n with
  | 0 => zb (zcr A k o)
  | 1 => if zcr A k o = true then nI (zpl A k o) else -6
  | 2 => if zcr A k o = true then nI (zpl A o k) else -6
  | 3 => if zcr A k o = true then zb (zst A k o) else -6
  | 4 => zsl A k o
  | _ => if zcr A k o = true then zrb A k o else 0
theorem e6_abx {M : zM} {A : zA} {k o n : Nat} (hA : zcA M 0 = A) (hw : zwv M 0 A (znt A)) (hz : zok A) (hkK : k < zKn A) (hoK : o < zKn A) (hn : n ≤ 5) : fX6_aboutCrossing M (nI k) (nI o) (nI n) = some (zxa A k o n, M) := by
  have hK := hz.2.1
  have hk : k < 6 := by omega
  have ho : o < 6 := by omega
  have hk' : zhk (zcA M 0) k := by rw [hA]; exact hz.hk hkK
  have ho' : zhk (zcA M 0) o := by rw [hA]; exact hz.hk hoK
  have hL : ∀ q, q ∈ znt A → q.1 < 6 ∧ q.2 < 6 := fun q hq => znt_6 hK hq
  have hko : (k, o) ∈ znt A ↔ zcr A k o = true := znt_mem hK
  have hok : (o, k) ∈ znt A ↔ zcr A k o = true := by rw [znt_mem hK]; show zcr A o k = true ↔ _; rw [zcr_sym]
  unfold fX6_aboutCrossing
  simp only [e5_cross hk ho hw hL hko, zC_some, e5_placeOn hk ho hw hL hko, e5_placeOn ho hk hw hL hok, e5_isSteep hk ho hw hL hko, e2_sliding hk ho, e2_rub hk' ho', hA]
  obtain rfl | rfl | rfl | rfl | rfl | rfl : n = 0 ∨ n = 1 ∨ n = 2 ∨ n = 3 ∨ n = 4 ∨ n = 5 := by omega
  · simp only [eq_true (show nI 0 = (0 : Int32) from rfl), if_false, if_true, zxa]
    cases hc : zcr A k o <;> simp [zb]
  · simp only [eq_false (show ¬ nI 1 = (0 : Int32) by decide), eq_true (show nI 1 = (1 : Int32) from rfl), if_false, if_true, zxa]
  · simp only [eq_false (show ¬ nI 2 = (0 : Int32) by decide), eq_false (show ¬ nI 2 = (1 : Int32) by decide), eq_true (show nI 2 = (2 : Int32) from rfl), if_false, if_true, zxa]
  · simp only [eq_false (show ¬ nI 3 = (0 : Int32) by decide), eq_false (show ¬ nI 3 = (1 : Int32) by decide), eq_false (show ¬ nI 3 = (2 : Int32) by decide), eq_true (show nI 3 = (3 : Int32) from rfl), if_false, if_true, zxa]
    cases hc : zcr A k o <;> cases hs : zst A k o <;> simp [zb]
  · simp only [eq_false (show ¬ nI 4 = (0 : Int32) by decide), eq_false (show ¬ nI 4 = (1 : Int32) by decide), eq_false (show ¬ nI 4 = (2 : Int32) by decide), eq_false (show ¬ nI 4 = (3 : Int32) by decide), eq_true (show nI 4 = (4 : Int32) from rfl), if_false, if_true, zxa]
  · simp only [eq_false (show ¬ nI 5 = (0 : Int32) by decide), eq_false (show ¬ nI 5 = (1 : Int32) by decide), eq_false (show ¬ nI 5 = (2 : Int32) by decide), eq_false (show ¬ nI 5 = (3 : Int32) by decide), eq_false (show ¬ nI 5 = (4 : Int32) by decide), if_false, if_true, zxa, zrb]
    cases hc : zcr A k o <;> cases hs : zst A k o <;> simp [zb]
theorem zN_ok {σ : zSg} (h : zOK σ) : zKn σ.1 ≤ 6 := h.1.2.1
