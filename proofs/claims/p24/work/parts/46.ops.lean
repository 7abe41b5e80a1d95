theorem or0 (m : Int32) : m ||| 0 = m := Int32.or_zero
theorem l5_ones {M : zM} {w a : Nat} {C : zA} {L : List (Nat × Nat)} (ha : a < 6) (hw : zwv M w C L) (hL : ∀ q, q ∈ L → q.1 < 6 ∧ q.2 < 6) {k : zM → Int32 → Int32 → Option (Int32 × zM)} : ∀ (c i n : Nat) (m : Int32), i + c = L.length → c < n →
    fX5_crossersOf_L4 k w (nI a) n M m (nI i) = k M ((L.drop i).foldl (fun m q => if decide (q.1 = a) = true then m ||| zbit q.2 else m) m) (nI L.length) := by
  obtain ⟨w1, w2, w3⟩ := hw
  intro c
  induction c with
  | zero =>
    intro i n m hi hn
    obtain ⟨n, rfl⟩ : ∃ q, n = q + 1 := ⟨n - 1, by omega⟩
    obtain rfl : i = L.length := by omega
    unfold fX5_crossersOf_L4
    rw [w1, if_pos (by rw [zle (by omega) (by omega)]; omega), List.drop_eq_nil_of_le (Nat.le_refl _)]
    rfl
  | succ c ih =>
    intro i n m hi hn
    obtain ⟨n, rfl⟩ : ∃ q, n = q + 1 := ⟨n - 1, by omega⟩
    have hlt : i < L.length := by omega
    obtain ⟨q, hqd⟩ : ∃ q, q = L[i]'hlt := ⟨_, rfl⟩
    have hq : L[i]? = some q := by rw [hqd]; exact List.getElem?_eq_getElem hlt
    obtain ⟨r16, r17, _, _⟩ := w3 i q hq
    obtain ⟨q1, q2⟩ := hL q (List.mem_of_getElem? hq)
    unfold fX5_crossersOf_L4
    rw [w1, if_neg (by rw [zle (by omega) (by omega)]; omega), if_neg (by rw [show (30 : Int32) = nI 30 from rfl, zle (by omega) (by omega)]; omega), zI_eq (zix_nI (by omega) (by omega)), zI_eq (zix_nI (by omega) (by omega)), zN_nI (by omega), r16, r17, zL_eq, zL_eq, zL_eq, nI_1, List.drop_eq_getElem_cons hlt, List.foldl_cons, ← hqd]
    by_cases h1 : q.1 = a
    · rw [if_pos (by rw [h1]), if_pos (by simp [h1])]
      exact ih (i + 1) n _ (by omega) (by omega)
    · rw [if_neg (by rw [zeq (by omega) (by omega)]; exact h1), if_neg (by simp [h1])]
      exact ih (i + 1) n _ (by omega) (by omega)
theorem e5_ones {M : zM} {w a : Nat} {A : zA} (ha : a < 6) (hw : zwv M w A (znt A)) (hK : zKn A ≤ 6) : fX5_crossersOf M w (nI a) = some (zmk (fun o => zcr A a o), M) := by
  have hL : ∀ q, q ∈ znt A → q.1 < 6 ∧ q.2 < 6 := fun q hq => znt_6 hK hq
  unfold fX5_crossersOf
  have h30 := hw.2.1
  have e := l5_ones ha hw hL (k := fun M24 v25 v26 => some (v25, M24)) (znt A).length 0 2000 0 (by omega) (by omega)
  rw [show (some (zmk (fun o => zcr A a o), M) : Option (Int32 × zM)) = some (((znt A).drop 0).foldl (fun m q => if decide (q.1 = a) = true then m ||| zbit q.2 else m) 0, M) from ?_]
  · exact e
  · rw [List.drop_zero, zmk_fold0 (hit := fun q => decide (q.1 = a)) (sel := fun q => q.2) (fun q hq => (hL q hq).2)]
    congr 2
    refine zmk_congr fun o ho => ?_
    rw [Bool.eq_iff_iff, List.any_eq_true]
    constructor
    · intro h
      exact ⟨(a, o), (znt_mem hK).mpr h, by simp⟩
    · rintro ⟨q, q1, q2⟩
      simp only [Bool.and_eq_true, decide_eq_true_eq, beq_iff_eq] at q2
      have := (znt_mem hK).mp q1
      rw [q2.1, ← q2.2] at this; exact this
def zpr (A : zA) (K : Nat) : Nat := zf (fun k m => zf (fun o m => if zcr A k o = true then m + 1 else m) k 0 m) K 0 0
theorem zin_ln2 {C : zA} {i o : Nat} {L : List (Nat × Nat)} : (zin C i o L).length = L.length + 2 * (zcr C o i).toNat := by
  unfold zin
  rw [← zcr_sym]
  cases h : zcr C o i
  · simp
  · simp
theorem zfi_n (b : Bool) (m : Nat) : (if b = true then m + 1 else m) = m + b.toNat := by cases b <;> rfl
set_option maxHeartbeats 4000000 in
theorem znt_len {C : zA} : (znt C).length = 2 * zpr C 6 := by
  unfold znt zpr
  simp only [zf, zou_eq, zin_ln2, List.length_nil, zfi_n, Nat.zero_add, Nat.reduceAdd, Nat.reduceSub]
  omega
theorem e5_crossings {M : zM} {w : Nat} {C A : zA} (hw : zwv M w C (znt A)) : fX5_crossings M w = some (nI (zpr A 6), M) := by
  obtain ⟨w1, w2, _⟩ := hw
  unfold fX5_crossings
  rw [w1, znt_len]
  rw [znt_len] at w2
  have hh : ∀ n : Fin 16, nI (2 * n.val) / 2 = nI n.val := by decide +kernel
  rw [show nI (2 * zpr A 6) / 2 = nI (zpr A 6) from hh ⟨zpr A 6, by omega⟩]

theorem l2_air {M : zM} {j : Nat} {A : zA} (h : zok A) (hA : zcA M j = A) {k : zM → Int32 → Int32 → Option (Int32 × zM)} : ∀ (c i n : Nat) (m : Int32), i + c = 6 → c < n →
    fX2_flyingKites_L4 k j n M m (nI i) = k M (zf (fun p m => if zfly A p = true then m ||| zbit p else m) c i m) (nI 6) := by
  intro c
  induction c with
  | zero =>
    intro i n m hi hn
    obtain ⟨n, rfl⟩ : ∃ q, n = q + 1 := ⟨n - 1, by omega⟩
    obtain rfl : i = 6 := by omega
    rfl
  | succ c ih =>
    intro i n m hi hn
    obtain ⟨n, rfl⟩ : ∃ q, n = q + 1 := ⟨n - 1, by omega⟩
    unfold fX2_flyingKites_L4
    have hc : ¬ (6 : Int32) ≤ nI i := nI_ge (a := i) (b := 6) (by omega) (by omega)
    have hf := e2_fly (M := M) (j := j) (k := i) (by rw [hA]; exact h) (by omega)
    rw [hA] at hf
    rw [if_neg hc, hf, zC_some]
    show _ = k M (zf _ c (i + 1) (if zfly A i = true then m ||| zbit i else m)) (nI 6)
    cases hq : zfly A i with
    | false => rw [if_pos (show zb false = 0 from rfl), if_neg (by decide), zL_eq, nI_1]; exact ih (i + 1) n m (by omega) (by omega)
    | true => rw [if_neg (show ¬ zb true = 0 by decide), if_pos rfl, zL_eq, zL_eq, nI_1]; exact ih (i + 1) n _ (by omega) (by omega)
theorem e2_air {M : zM} {j : Nat} {A : zA} (h : zok A) (hA : zcA M j = A) : fX2_flyingKites M j = some (zmk (zfly A), M) := by
  unfold fX2_flyingKites
  exact l2_air h hA (k := fun M26 v27 v28 => some (v27, M26)) 6 0 2000 0 (by omega) (by omega)
def zsp (A : zA) : Int32 := zf (fun p s => s + A p 7) (zKn A) 0 0
theorem l2_pts {M : zM} {j : Nat} {A : zA} (h : zok A) (hA : zcA M j = A) {k : zM → Int32 → Int32 → Option (Int32 × zM)} : ∀ (c i n : Nat) (m : Int32), i + c = 6 → c < n →
    fX2_allPoints_L4 k j n M m (nI i) = k M (zf (fun p s => if p < zKn A then s + A p 7 else s) c i m) (nI 6) := by
  intro c
  induction c with
  | zero =>
    intro i n m hi hn
    obtain ⟨n, rfl⟩ : ∃ q, n = q + 1 := ⟨n - 1, by omega⟩
    obtain rfl : i = 6 := by omega
    rfl
  | succ c ih =>
    intro i n m hi hn
    obtain ⟨n, rfl⟩ : ∃ q, n = q + 1 := ⟨n - 1, by omega⟩
    unfold fX2_allPoints_L4
    have hc : ¬ (6 : Int32) ≤ nI i := nI_ge (a := i) (b := 6) (by omega) (by omega)
    have hf := e2_has (M := M) (j := j) (v := nI i) (by rw [hA]; exact h)
    rw [hA, zhas_of (by omega)] at hf
    rw [if_neg hc, hf, zC_some, zI_eq (zix_nI (show i < 6 by omega) (by omega)), zN_nI (by omega), zr7 (M := M) (show i < 6 by omega), hA]
    show _ = k M (zf _ c (i + 1) (if i < zKn A then m + A i 7 else m)) (nI 6)
    by_cases hq : i < zKn A
    · rw [if_neg (by rw [decide_eq_true hq]; decide), if_pos hq, zL_eq, zL_eq, nI_1]; exact ih (i + 1) n _ (by omega) (by omega)
    · rw [if_pos (by rw [decide_eq_false hq]; rfl), if_neg hq, zL_eq, nI_1]; exact ih (i + 1) n m (by omega) (by omega)
theorem e2_pts {M : zM} {j : Nat} {A : zA} (h : zok A) (hA : zcA M j = A) : fX2_allPoints M j = some (zsp A, M) := by
  unfold fX2_allPoints zsp
  have e := l2_pts h hA (k := fun M26 v27 v28 => some (v27, M26)) 6 0 2000 0 (by omega) (by omega)
  rw [show (0 : Int32) = nI 0 from rfl] at e ⊢
  rw [e]
  congr 2
  rw [zf_cut h.2.1 _ (fun p h1 h2 m => by
    show (if p < zKn A then m + A p 7 else m) = m
    rw [if_neg (by omega)])]
  exact zf_congr _ _ _ (fun p h1 h2 s => by
    show (if p < zKn A then s + A p 7 else s) = s + A p 7
    rw [if_pos (by omega)])
def zld (A : zA) : Nat := zf (fun p m => if A p 7 ≤ A m 7 then m else p) (zKn A - 1) 1 0
theorem l2_lead {M : zM} {j : Nat} {A : zA} (h : zok A) (hA : zcA M j = A) {k : zM → Int32 → Int32 → Option (Int32 × zM)} : ∀ (c i n m : Nat), i + c = 6 → m < 6 → c < n →
    fX2_leader_L14 k j n M (nI m) (nI i) = k M (nI (zf (fun p m => if p < zKn A then (if A p 7 ≤ A m 7 then m else p) else m) c i m)) (nI 6) := by
  intro c
  induction c with
  | zero =>
    intro i n m hi hm hn
    obtain ⟨n, rfl⟩ : ∃ q, n = q + 1 := ⟨n - 1, by omega⟩
    obtain rfl : i = 6 := by omega
    rfl
  | succ c ih =>
    intro i n m hi hm hn
    obtain ⟨n, rfl⟩ : ∃ q, n = q + 1 := ⟨n - 1, by omega⟩
    unfold fX2_leader_L14
    have hc : ¬ (6 : Int32) ≤ nI i := nI_ge (a := i) (b := 6) (by omega) (by omega)
    have hf := e2_has (M := M) (j := j) (v := nI i) (by rw [hA]; exact h)
    rw [hA, zhas_of (by omega)] at hf
    rw [if_neg hc, hf, zC_some, zI_eq (zix_nI (show i < 6 by omega) (by omega)), zI_eq (zix_nI hm (by omega)), zN_nI (show i < 2 ^ 31 by omega), zN_nI (show m < 2 ^ 31 by omega), zr7 (M := M) (show i < 6 by omega), zr7 (M := M) hm, hA]
    show _ = k M (nI (zf _ c (i + 1) (if i < zKn A then (if A i 7 ≤ A m 7 then m else i) else m))) (nI 6)
    by_cases hq : i < zKn A
    · rw [if_neg (by rw [decide_eq_true hq]; decide), if_pos hq, zL_eq, zL_eq, nI_1]
      by_cases hr : A i 7 ≤ A m 7
      · rw [if_pos hr, if_pos hr]; exact ih (i + 1) n m (by omega) hm (by omega)
      · rw [if_neg hr, if_neg hr]; exact ih (i + 1) n i (by omega) (by omega) (by omega)
    · rw [if_pos (by rw [decide_eq_false hq]; rfl), if_neg hq, zL_eq, nI_1]; exact ih (i + 1) n m (by omega) hm (by omega)
theorem e2_lead {M : zM} {j : Nat} {A : zA} (h : zok A) (hA : zcA M j = A) : fX2_leader M j = some (if zKn A = 0 then -6 else nI (zld A), M) := by
  have h10 : M 1 j 0 = nI (zKn A) := by rw [← hA]; rw [hA]; rw [← h.1, ← hA]; rfl
  unfold fX2_leader
  rw [h10, show (0 : Int32) = nI 0 from rfl]
  have hK := h.2.1
  by_cases h0 : zKn A = 0
  · rw [if_pos (by rw [h0]), if_pos h0]
  · rw [if_neg (by rw [zeq (by omega) (by omega)]; exact h0), if_neg h0, show (1 : Int32) = nI 1 from rfl, l2_lead h hA 5 1 2000 0 (by omega) (by omega) (by omega)]
    congr 3
    unfold zld
    rw [show zf (fun p m => if p < zKn A then (if A p 7 ≤ A m 7 then m else p) else m) 5 1 0 = zf (fun p m => if p < zKn A then (if A p 7 ≤ A m 7 then m else p) else m) ((zKn A - 1) + (6 - zKn A)) 1 0 by congr 1; omega, zf_split, zf_id _ _ _ (fun p h1 h2 m => by
      show (if p < zKn A then (if A p 7 ≤ A m 7 then m else p) else m) = m
      rw [if_neg (by omega)])]
    exact zf_congr _ _ _ (fun p h1 h2 m => by
      show (if p < zKn A then (if A p 7 ≤ A m 7 then m else p) else m) = if A p 7 ≤ A m 7 then m else p
      rw [if_pos (by omega)])
theorem rsp {N : zM} {A : zA} {p : Nat} (h : zrA (N 27 0) = A) (hp : p < 4) : N 27 0 p = A 6 p := by rw [← h]; exact zrs (f := N 27 0) hp
def zka (A : zA) (k n : Nat) : Int32 := match n with
  | 0 => A k 0
  | 1 => A k 1
  | 2 => A k 2
  | 3 => A k 3 + 10
  | 4 => A k 4 + 10
  | 5 => A k 5
  | 6 => A k 6
  | 7 => A k 7
  | 8 => A k 8
  | 9 => if zfly A k = true then zgw A k else 0
  | 10 => if zfly A k = true then nI (zmw A k) else 0
  | _ => if zfly A k = true then zmk (fun o => zcr A k o) else 0
theorem e6_kite {M : zM} {σ : zSg} {k n : Nat} (h0 : zOK σ) (h1 : zCR M σ) (hk : k < zKn σ.1) (hn : n ≤ 11) : ∃ M', (if 9 ≤ nI n then (zC (fX6_aboutString M (nI k) (nI n)) fun r26 M25 => some (r26, M25)) else (zC (fX6_aboutKite M (nI k) (nI n)) fun r28 M27 => some (r28, M27))) = some (zka σ.1 k n, M') ∧ zfw 0 M M' := by
  have hK := h0.1.2.1
  have hk6 : k < 6 := by omega
  have hf := gF h0 h1 hk6
  by_cases h9 : 9 ≤ n
  · have h9' : (9 : Int32) ≤ nI n := by rw [show (9 : Int32) = nI 9 from rfl, zle (by omega) (by omega)]; exact h9
    rw [if_pos h9']
    unfold fX6_aboutString
    rw [hf, zC_some]
    cases hq : zfly σ.1 k with
    | false =>
      rw [if_pos (show zb false = 0 from rfl), zC_some]
      refine ⟨M, ?_, zfw.refl⟩
      obtain rfl | rfl | rfl : n = 9 ∨ n = 10 ∨ n = 11 := by omega
      · simp only [zka, hq]; rfl
      · simp only [zka, hq]; rfl
      · simp only [zka, hq]; rfl
    | true =>
      rw [if_neg (show ¬ zb true = 0 by decide), e2_most (h1.hk h0 hk), zC_some, h1.1]
      have hgw := zgw_mw (A := σ.1) (k := k) (fun q hq => by
        obtain ⟨_, _, _, _, _, _, _, _, _, _, _, a12, _⟩ := h0.1.2.2 k hk
        exact (a12 q hq).1)
      obtain rfl | rfl | rfl : n = 9 ∨ n = 10 ∨ n = 11 := by omega
      · refine ⟨M, ?_, zfw.refl⟩
        simp only [eq_true (show nI 9 = (9 : Int32) from rfl), if_false, if_true, e2_wearAt (h1.hk h0 hk) (zmw_spec (A := σ.1) (k := k)).1, zC_some, zka, hq, h1.1, hgw]
      · refine ⟨M, ?_, zfw.refl⟩
        simp only [eq_false (show ¬ nI 10 = (9 : Int32) by decide), eq_true (show nI 10 = (10 : Int32) from rfl), if_false, if_true, zC_some, zka, hq]
      · obtain ⟨M1, m1, m2, m3⟩ := e5_measure (M := M) (w := 0) (j := 0) (by rw [h1.1]; exact h0.1)
        rw [h1.1] at m2
        refine ⟨M1, ?_, m3⟩
        simp only [eq_false (show ¬ nI 11 = (9 : Int32) by decide), eq_false (show ¬ nI 11 = (10 : Int32) by decide), if_false, if_true, m1, zC_some, e5_ones hk6 m2 hK, zka, hq]
  · have h9' : ¬ (9 : Int32) ≤ nI n := by rw [show (9 : Int32) = nI 9 from rfl, zle (by omega) (by omega)]; exact h9
    rw [if_neg h9']
    refine ⟨M, ?_, zfw.refl⟩
    unfold fX6_aboutKite
    simp only [zI_eq (zix_nI hk6 (show 6 < 2 ^ 31 by omega)), zN_nI (show k < 2 ^ 31 by omega), zr0 (M := M) hk6, zr1 (M := M) hk6, zr2 (M := M) hk6, zr3 (M := M) hk6, zr4 (M := M) hk6, zr5 (M := M) hk6, zr6 (M := M) hk6, zr7 (M := M) hk6, zr8 (M := M) hk6, h1.1]
    obtain rfl | rfl | rfl | rfl | rfl | rfl | rfl | rfl | rfl : n = 0 ∨ n = 1 ∨ n = 2 ∨ n = 3 ∨ n = 4 ∨ n = 5 ∨ n = 6 ∨ n = 7 ∨ n = 8 := by omega
    · simp only [eq_true (show nI 0 = (0 : Int32) from rfl), if_false, if_true, zC_some, zka]
    · simp only [eq_false (show ¬ nI 1 = (0 : Int32) by decide), eq_true (show nI 1 = (1 : Int32) from rfl), if_false, if_true, zC_some, zka]
    · simp only [eq_false (show ¬ nI 2 = (0 : Int32) by decide), eq_false (show ¬ nI 2 = (1 : Int32) by decide), eq_true (show nI 2 = (2 : Int32) from rfl), if_false, if_true, zC_some, zka]
    · simp only [eq_false (show ¬ nI 3 = (0 : Int32) by decide), eq_false (show ¬ nI 3 = (1 : Int32) by decide), eq_false (show ¬ nI 3 = (2 : Int32) by decide), eq_true (show nI 3 = (3 : Int32) from rfl), if_false, if_true, zC_some, zka]
    · simp only [eq_false (show ¬ nI 4 = (0 : Int32) by decide), eq_false (show ¬ nI 4 = (1 : Int32) by decide), eq_false (show ¬ nI 4 = (2 : Int32) by decide), eq_false (show ¬ nI 4 = (3 : Int32) by decide), eq_true (show nI 4 = (4 : Int32) from rfl), if_false, if_true, zC_some, zka]
    · simp only [eq_false (show ¬ nI 5 = (0 : Int32) by decide), eq_false (show ¬ nI 5 = (1 : Int32) by decide), eq_false (show ¬ nI 5 = (2 : Int32) by decide), eq_false (show ¬ nI 5 = (3 : Int32) by decide), eq_false (show ¬ nI 5 = (4 : Int32) by decide), eq_true (show nI 5 = (5 : Int32) from rfl), if_false, if_true, zC_some, zka]
    · simp only [eq_false (show ¬ nI 6 = (0 : Int32) by decide), eq_false (show ¬ nI 6 = (1 : Int32) by decide), eq_false (show ¬ nI 6 = (2 : Int32) by decide), eq_false (show ¬ nI 6 = (3 : Int32) by decide), eq_false (show ¬ nI 6 = (4 : Int32) by decide), eq_false (show ¬ nI 6 = (5 : Int32) by decide), eq_true (show nI 6 = (6 : Int32) from rfl), if_false, if_true, zC_some, zka]
    · simp only [eq_false (show ¬ nI 7 = (0 : Int32) by decide), eq_false (show ¬ nI 7 = (1 : Int32) by decide), eq_false (show ¬ nI 7 = (2 : Int32) by decide), eq_false (show ¬ nI 7 = (3 : Int32) by decide), eq_false (show ¬ nI 7 = (4 : Int32) by decide), eq_false (show ¬ nI 7 = (5 : Int32) by decide), eq_false (show ¬ nI 7 = (6 : Int32) by decide), eq_true (show nI 7 = (7 : Int32) from rfl), if_false, if_true, zC_some, zka]
    · simp only [eq_false (show ¬ nI 8 = (0 : Int32) by decide), eq_false (show ¬ nI 8 = (1 : Int32) by decide), eq_false (show ¬ nI 8 = (2 : Int32) by decide), eq_false (show ¬ nI 8 = (3 : Int32) by decide), eq_false (show ¬ nI 8 = (4 : Int32) by decide), eq_false (show ¬ nI 8 = (5 : Int32) by decide), eq_false (show ¬ nI 8 = (6 : Int32) by decide), eq_false (show ¬ nI 8 = (7 : Int32) by decide), if_false, if_true, zC_some, zka]
