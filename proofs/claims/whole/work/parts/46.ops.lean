/-! ===== masks, counts, the leader ===== -/
theorem or0 (m : Int32) : m ||| 0 = m := Int32.or_zero
theorem l5_ones {M : zM} {w a : Nat} {C : zA} {L : List (Nat × Nat)} (ha : a < 6) (hw : zwv M w C L) (hL : ∀ q, q ∈ L → q.1 < 6 ∧ q.2 < 6) {k : zM → Int32 → Int32 → Option (Int32 × zM)} : ∀ (c i n : Nat) (m : Int32), i + c = L.length → c < n →
    fX5_crossersOf_L4 k w (nI a) n M m (nI i) = k M ((L.drop i).foldl (fun m q => if decide (q.1 = a) = true then m ||| zbit q.2 else m) m) (nI L.length) := by
  obtain ⟨w1, w2, w3⟩ := hw
  intro c
  induction c with
  | zero =>
    intro i n m hi hn
    obtain ⟨n, rfl⟩ : ∃ q, n = q + 1 := ⟨n - 1, by omega⟩
    obtain rfl : i = L.length := by omega
    unfold fX5_crossersOf_L4
    rw [w1, if_pos (by rw [zle (by omega) (by omega)]; omega), List.drop_eq_nil_of_le (Nat.le_refl _)]
    rfl
  | succ c ih =>
    intro i n m hi hn
    obtain ⟨n, rfl⟩ : ∃ q, n = q + 1 := ⟨n - 1, by omega⟩
    have hlt : i < L.length := by omega
    obtain ⟨q, hqd⟩ : ∃ q, q = L[i]'hlt := ⟨_, rfl⟩
    have hq : L[i]? = some q := by rw [hqd]; exact List.getElem?_eq_getElem hlt
    obtain ⟨r16, r17, _, _⟩ := w3 i q hq
    obtain ⟨q1, q2⟩ := hL q (List.mem_of_getElem? hq)
    unfold fX5_crossersOf_L4
    rw [w1, if_neg (by rw [zle (by omega) (by omega)]; omega), if_neg (by rw [show (30 : Int32) = nI 30 from rfl, zle (by omega) (by omega)]; omega), zI_eq (zix_nI (by omega) (by omega)), zI_eq (zix_nI (by omega) (by omega)), zN_nI (by omega), r16, r17, zL_eq, zL_eq, zL_eq, nI_1, List.drop_eq_getElem_cons hlt, List.foldl_cons, ← hqd]
    by_cases h1 : q.1 = a
    · rw [if_pos (by rw [h1]), if_pos (by simp [h1])]
      exact ih (i + 1) n _ (by omega) (by omega)
    · rw [if_neg (by rw [zeq (by omega) (by omega)]; exact h1), if_neg (by simp [h1])]
      exact ih (i + 1) n _ (by omega) (by omega)
theorem e5_ones {M : zM} {w a : Nat} {A : zA} (ha : a < 6) (hw : zwv M w A (znt A)) (hK : zKn A ≤ 6) : fX5_crossersOf M w (nI a) = some (zmk (fun o => zcr A a o), M) := by
  have hL : ∀ q, q ∈ znt A → q.1 < 6 ∧ q.2 < 6 := fun q hq => znt_6 hK hq
  unfold fX5_crossersOf
  have h30 := hw.2.1
  have e := l5_ones ha hw hL (k := fun M24 v25 v26 => some (v25, M24)) (znt A).length 0 2000 0 (by omega) (by omega)
  rw [show (some (zmk (fun o => zcr A a o), M) : Option (Int32 × zM)) = some (((znt A).drop 0).foldl (fun m q => if decide (q.1 = a) = true then m ||| zbit q.2 else m) 0, M) from ?_]
  · exact e
  · rw [List.drop_zero, zmk_fold0 (hit := fun q => decide (q.1 = a)) (sel := fun q => q.2) (fun q hq => (hL q hq).2)]
    congr 2
    refine zmk_congr fun o ho => ?_
    rw [Bool.eq_iff_iff, List.any_eq_true]
    constructor
    · intro h
      exact ⟨(a, o), (znt_mem hK).mpr h, by simp⟩
    · rintro ⟨q, q1, q2⟩
      simp only [Bool.and_eq_true, decide_eq_true_eq, beq_iff_eq] at q2
      have := (znt_mem hK).mp q1
      rw [q2.1, ← q2.2] at this; exact this
theorem l7_ones {A : zA} {a K : Nat} (h : zok A) (hK : zKn A = K) (ha : a < K) {k : zM → Int32 → Int32 → Option (Int32 × zM)} : ∀ (c i n : Nat) (m : Int32) (N : zM), i + c = K → c < n → zrA (N 27 0) = A →
    ∃ N', fX7_crossingOnes_L4 k (nI a) n N m (nI i) = k N' (zf (fun o m => if zcr A a o = true then m ||| zbit o else m) c i m) (nI K) ∧ zf26 N N' := by
  have hK6 : K ≤ 6 := by rw [← hK]; exact h.2.1
  intro c
  induction c with
  | zero =>
    intro i n m N hi hn hA
    obtain ⟨n, rfl⟩ : ∃ q, n = q + 1 := ⟨n - 1, by omega⟩
    obtain rfl : i = K := by omega
    have h0 : N 27 0 (zN 0) = nI i := by rw [r60 hA, ← hK]; exact h.1
    refine ⟨N, ?_, zf26.refl⟩
    unfold fX7_crossingOnes_L4
    rw [zI_eq (by decide), h0, if_pos (by rw [zle (by omega) (by omega)]; omega)]
    rfl
  | succ c ih =>
    intro i n m N hi hn hA
    obtain ⟨n, rfl⟩ : ∃ q, n = q + 1 := ⟨n - 1, by omega⟩
    have h0 : N 27 0 (zN 0) = nI K := by rw [r60 hA, ← hK]; exact h.1
    unfold fX7_crossingOnes_L4
    rw [zI_eq (by decide), h0, if_neg (by rw [zle (by omega) (by omega)]; omega)]
    show ∃ N', _ = k N' (zf _ c (i + 1) (if zcr A a i = true then m ||| zbit i else m)) (nI K) ∧ _
    by_cases hia : i = a
    · rw [if_pos (by rw [hia]), zL_eq, zL_eq, or0, nI_1, hia, zcr_self, if_neg (by decide)]
      obtain ⟨N', e, f⟩ := ih (i + 1) n m N (by omega) (by omega) hA
      rw [hia] at e
      exact ⟨N', e, f⟩
    · rw [if_neg (by rw [zeq (by omega) (by omega)]; exact hia)]
      have e7 := e7_cross (M := N) (k := a) (o := i) (by rw [hA]; omega) (by rw [hA]; exact (h.2.2 a (by omega)).kp) (by rw [hA]; exact (h.2.2 i (by omega)).kp) (by omega) (by rw [hA]; omega) (by rw [hA]; omega)
      rw [hA] at e7
      rw [e7, zC_some]
      cases hc : zcr A a i with
      | false =>
        rw [if_pos (show zb false = 0 from rfl), if_neg (by decide), if_neg (by decide), zL_eq, zL_eq, or0, nI_1]
        exact ih (i + 1) n m N (by omega) (by omega) hA
      | true =>
        rw [if_neg (show ¬ zb true = 0 by decide), if_pos rfl, if_pos rfl, zL_eq, zL_eq, nI_1]
        obtain ⟨N', e, f⟩ := ih (i + 1) n (m ||| zbit i) (zw (zw (zw N 26 0 9 (nI (zpl A a i))) 26 0 10 (nI (zpl A i a))) 26 0 11 (zb (zst A a i))) (by omega) (by omega) (by rw [zw_ne (by omega), zw_ne (by omega), zw_ne (by omega)]; exact hA)
        exact ⟨N', e, (((zf26.w (by omega)).trans (zf26.w (by omega))).trans (zf26.w (by omega))).trans f⟩
theorem e7_ones {N : zM} {A : zA} {a : Nat} (h : zok A) (ha : a < zKn A) (hA : zrA (N 27 0) = A) : ∃ N', fX7_crossingOnes N (nI a) = some (zmk (fun o => zcr A a o), N') ∧ zf26 N N' := by
  unfold fX7_crossingOnes
  obtain ⟨N', e, f⟩ := l7_ones h rfl ha (k := fun M29 v30 v31 => some (v30, M29)) (zKn A) 0 2000 0 N (by omega) (by have := h.2.1; omega) hA
  refine ⟨N', ?_, f⟩
  rw [show (some (zmk (fun o => zcr A a o), N') : Option (Int32 × zM)) = some (zf (fun o m => if zcr A a o = true then m ||| zbit o else m) (zKn A) 0 0, N') from ?_]
  · exact e
  · congr 2
    exact zf_cut h.2.1 0 (fun o h1 h2 m => by show (if zcr A a o = true then m ||| zbit o else m) = m; rw [zcr_out (Or.inr h1), if_neg (by decide)])
/-! how many crossings -/
def zpr (A : zA) (K : Nat) : Nat := zf (fun k m => zf (fun o m => if zcr A k o = true then m + 1 else m) k 0 m) K 0 0
theorem l7_min {A : zA} {a K : Nat} (h : zok A) (hK : zKn A = K) (ha : a < K) {k : zM → Int32 → Int32 → Option (Int32 × zM)} : ∀ (c i n m : Nat) (N : zM), i + c = a → c < n → zrA (N 27 0) = A →
    ∃ N', fX7_crossingsMany_L16 k (nI a) n N (nI m) (nI i) = k N' (nI (zf (fun o m => if zcr A a o = true then m + 1 else m) c i m)) (nI a) ∧ zf26 N N' := by
  have hK6 : K ≤ 6 := by rw [← hK]; exact h.2.1
  intro c
  induction c with
  | zero =>
    intro i n m N hi hn hA
    obtain ⟨n, rfl⟩ : ∃ q, n = q + 1 := ⟨n - 1, by omega⟩
    obtain rfl : i = a := by omega
    refine ⟨N, ?_, zf26.refl⟩
    unfold fX7_crossingsMany_L16
    rw [if_pos (by rw [zle (by omega) (by omega)]; omega)]
    rfl
  | succ c ih =>
    intro i n m N hi hn hA
    obtain ⟨n, rfl⟩ : ∃ q, n = q + 1 := ⟨n - 1, by omega⟩
    unfold fX7_crossingsMany_L16
    rw [if_neg (by rw [zle (by omega) (by omega)]; omega)]
    show ∃ N', _ = k N' (nI (zf _ c (i + 1) (if zcr A a i = true then m + 1 else m))) (nI a) ∧ _
    have e7 := e7_cross (M := N) (k := a) (o := i) (by rw [hA]; omega) (by rw [hA]; exact (h.2.2 a (by omega)).kp) (by rw [hA]; exact (h.2.2 i (by omega)).kp) (by omega) (by rw [hA]; omega) (by rw [hA]; omega)
    rw [hA] at e7
    rw [e7, zC_some]
    cases hc : zcr A a i with
    | false =>
      rw [if_pos (show zb false = 0 from rfl), if_neg (by decide), if_neg (by decide), zL_eq, zL_eq, show (0 : Int32) = nI 0 from rfl, nI_add, Nat.add_zero, nI_1]
      exact ih (i + 1) n m N (by omega) (by omega) hA
    | true =>
      rw [if_neg (show ¬ zb true = 0 by decide), if_pos rfl, if_pos rfl, zL_eq, zL_eq, nI_1, nI_1]
      obtain ⟨N', e, f⟩ := ih (i + 1) n (m + 1) (zw (zw (zw N 26 0 9 (nI (zpl A a i))) 26 0 10 (nI (zpl A i a))) 26 0 11 (zb (zst A a i))) (by omega) (by omega) (by rw [zw_ne (by omega), zw_ne (by omega), zw_ne (by omega)]; exact hA)
      exact ⟨N', e, (((zf26.w (by omega)).trans (zf26.w (by omega))).trans (zf26.w (by omega))).trans f⟩
theorem l7_mout {A : zA} {K : Nat} (h : zok A) (hK : zKn A = K) {k : zM → Int32 → Int32 → Option (Int32 × zM)} : ∀ (c i n m : Nat) (N : zM), i + c = K → c < n → zrA (N 27 0) = A →
    ∃ N', fX7_crossingsMany_L4 k n N (nI m) (nI i) = k N' (nI (zf (fun k m => zf (fun o m => if zcr A k o = true then m + 1 else m) k 0 m) c i m)) (nI K) ∧ zf26 N N' := by
  have hK6 : K ≤ 6 := by rw [← hK]; exact h.2.1
  intro c
  induction c with
  | zero =>
    intro i n m N hi hn hA
    obtain ⟨n, rfl⟩ : ∃ q, n = q + 1 := ⟨n - 1, by omega⟩
    obtain rfl : i = K := by omega
    have h0 : N 27 0 (zN 0) = nI i := by rw [r60 hA, ← hK]; exact h.1
    refine ⟨N, ?_, zf26.refl⟩
    unfold fX7_crossingsMany_L4
    rw [zI_eq (by decide), h0, if_pos (by rw [zle (by omega) (by omega)]; omega)]
    rfl
  | succ c ih =>
    intro i n m N hi hn hA
    obtain ⟨n, rfl⟩ : ∃ q, n = q + 1 := ⟨n - 1, by omega⟩
    have h0 : N 27 0 (zN 0) = nI K := by rw [r60 hA, ← hK]; exact h.1
    unfold fX7_crossingsMany_L4
    rw [zI_eq (by decide), h0, if_neg (by rw [zle (by omega) (by omega)]; omega), show (0 : Int32) = nI 0 from rfl]
    obtain ⟨N1, e1, f1⟩ := l7_min h hK (show i < K by omega) (k := fun M27 v28 v29 => zL (nI i + 1) fun v30 => fX7_crossingsMany_L4 k n M27 v28 v30) i 0 2000 m N (by omega) (by omega) hA
    rw [e1, zL_eq, nI_1]
    obtain ⟨N2, e2, f2⟩ := ih (i + 1) n (zf (fun o m => if zcr A i o = true then m + 1 else m) i 0 m) N1 (by omega) (by omega) (by rw [f1.1 27 0 (by omega)]; exact hA)
    exact ⟨N2, e2, f1.trans f2⟩
theorem e7_many {N : zM} {A : zA} (h : zok A) (hA : zrA (N 27 0) = A) : ∃ N', fX7_crossingsMany N = some (nI (zpr A 6), N') ∧ zf26 N N' := by
  unfold fX7_crossingsMany
  obtain ⟨N', e, f⟩ := l7_mout h rfl (k := fun M31 v32 v33 => some (v32, M31)) (zKn A) 0 2000 0 N (by omega) (by have := h.2.1; omega) hA
  refine ⟨N', ?_, f⟩
  have e6 : zpr A 6 = zpr A (zKn A) := by
    unfold zpr
    refine zf_cut h.2.1 0 (fun k h1 h2 m => ?_)
    refine zf_id k 0 m (fun o _ _ m => ?_)
    rw [zcr_out (Or.inl h1), if_neg (by decide)]
  rw [e6]
  exact e
theorem zin_ln2 {C : zA} {i o : Nat} {L : List (Nat × Nat)} : (zin C i o L).length = L.length + 2 * (zcr C o i).toNat := by
  unfold zin
  rw [← zcr_sym]
  cases h : zcr C o i
  · simp
  · simp
theorem zfi_n (b : Bool) (m : Nat) : (if b = true then m + 1 else m) = m + b.toNat := by cases b <;> rfl
set_option maxHeartbeats 4000000 in
theorem znt_len {C : zA} : (znt C).length = 2 * zpr C 6 := by
  unfold znt zpr
  simp only [zf, zou_eq, zin_ln2, List.length_nil, zfi_n, Nat.zero_add, Nat.reduceAdd, Nat.reduceSub]
  omega
theorem e5_crossings {M : zM} {w : Nat} {C A : zA} (hw : zwv M w C (znt A)) : fX5_crossings M w = some (nI (zpr A 6), M) := by
  obtain ⟨w1, w2, _⟩ := hw
  unfold fX5_crossings
  rw [zV_eq (by decide), w1, znt_len]
  rw [znt_len] at w2
  have hh : ∀ n : Fin 16, nI (2 * n.val) / 2 = nI n.val := by decide +kernel
  rw [show nI (2 * zpr A 6) / 2 = nI (zpr A 6) from hh ⟨zpr A 6, by omega⟩]
