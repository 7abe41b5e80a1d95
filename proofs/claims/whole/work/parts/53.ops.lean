/-! ===== calls: bestOrder ===== -/
theorem zvC_p {A : zA} {k p : Nat} (h : p ≠ 1 ∧ p ≠ 2 ∧ p ≠ 3 ∧ p ≠ 4) : zvC A k p = A k p :=
  zf_inv (P := fun s => s k p = A k p) _ 0 A rfl (fun k _ hk s hs => by
    unfold zmo; split
    · rw [zmv_s (Or.inr h)]; exact hs
    · exact hs)
theorem zvC_fly {A : zA} {k : Nat} (h : zKn A ≤ 6) : zfly (zvC A) k = zfly A k := by
  unfold zfly; rw [zvC_Kn h, zvC_p (by omega)]
theorem zTk_fly {A : zA} {k : Nat} (h : zok A) (hk : k < zKn A) : zfly (zTk A) k = (zfly A k && !zcutP (zvC A) k) := by
  have hk6 : k < 6 := by have := h.2.1; omega
  unfold zfly
  rw [zTk_Kn h, zTk_8 hk6, zvC_p (by omega)]
  cases zcutP (zvC A) k <;> simp
theorem zou_len {C : zA} {i : Nat} {L : List (Nat × Nat)} : (zou C i L).length ≤ L.length + 2 * (5 - i) := by
  unfold zou
  split
  · exact zin_lens _ _ _
  · omega
theorem znt_30 {C : zA} : (znt C).length ≤ 30 := by
  have h0 := zou_len (C := C) (i := 0) (L := [])
  have h1 := zou_len (C := C) (i := 1) (L := zou C 0 [])
  have h2 := zou_len (C := C) (i := 2) (L := zou C 1 (zou C 0 []))
  have h3 := zou_len (C := C) (i := 3) (L := zou C 2 (zou C 1 (zou C 0 [])))
  have h4 := zou_len (C := C) (i := 4) (L := zou C 3 (zou C 2 (zou C 1 (zou C 0 []))))
  have h5 := zou_len (C := C) (i := 5) (L := zou C 4 (zou C 3 (zou C 2 (zou C 1 (zou C 0 [])))))
  have e : (([] : List (Nat × Nat)).length) = 0 := rfl
  show (zou C 5 (zou C 4 (zou C 3 (zou C 2 (zou C 1 (zou C 0 [])))))).length ≤ 30
  omega
theorem zls_01 {f : Nat × Nat → Bool} : ∀ (L : List (Nat × Nat)), ∃ n, n ≤ L.length ∧ zls (fun q => if f q then 1 else 0) L = nI n := by
  intro L
  induction L with
  | nil => exact ⟨0, by omega, rfl⟩
  | cons q L ih =>
    obtain ⟨n, h1, h2⟩ := ih
    cases hq : f q
    · refine ⟨n, by rw [List.length_cons]; omega, ?_⟩
      show (if f q then (1 : Int32) else 0) + zls _ L = _
      rw [hq, h2, if_neg (by decide), Int32.zero_add]
    · refine ⟨1 + n, by rw [List.length_cons]; omega, ?_⟩
      show (if f q then (1 : Int32) else 0) + zls _ L = _
      rw [hq, h2, if_pos rfl, show (1 : Int32) = nI 1 from rfl, nI_add]
theorem zTk_7 {A : zA} {k : Nat} (h : zok A) (hk : k < zKn A) : ∃ n, n ≤ 30 ∧ zTk A k 7 = A k 7 + nI n ∧ (zfly A k = false → n = 0) := by
  have hk6 : k < 6 := by have := h.2.1; omega
  have e : zTk A k 7 = A k 7 + zls (fun q => if zht (zvC A) (zWC (zvC A)) q.1 q.2 && k == q.2 then 1 else 0) (znt (zvC A)) := by
    unfold zTk zX
    rw [zp_nk (by omega), zcus_s (by omega) (by omega)]
    unfold zPA
    rw [(zpt_val (C := zvC A) (W := zWC (zvC A)) (znt (zvC A)) (zWC (zvC A), 0, 0) zo7.refl).2.1 k]
    show zWC (zvC A) k 7 + _ = _
    rw [zWC_lo (by omega), zvC_p (by omega)]
  cases hf : zfly A k
  · refine ⟨0, by omega, ?_, fun _ => rfl⟩
    rw [e, zls_zero]
    · rfl
    · intro q hq
      have hcr := (znt_mem (zvC_ok h).2.1).mp hq
      by_cases hkq : k = q.2
      · unfold zcr at hcr
        rw [← hkq, zvC_fly h.2.1 (k := k), hf] at hcr
        simp at hcr
      · simp [hkq]
  · obtain ⟨n, h1, h2⟩ := zls_01 (f := fun q => zht (zvC A) (zWC (zvC A)) q.1 q.2 && k == q.2) (znt (zvC A))
    have h3 := znt_30 (C := zvC A)
    exact ⟨n, by omega, by rw [e, h2], fun q => by cases q⟩
theorem zTk_not {A : zA} {k : Nat} (h : zok A) (hk : k < zKn A) (hf : zfly A k = false) : zfly (zTk A) k = false ∧ zTk A k 7 = A k 7 ∧ zcutP (zvC A) k = false := by
  have hk6 : k < 6 := by have := h.2.1; omega
  obtain ⟨n, _, h1, h2⟩ := zTk_7 h hk
  refine ⟨by rw [zTk_fly h hk, hf]; rfl, ?_, ?_⟩
  · rw [h1, h2 hf]; exact Int32.add_zero _
  · rw [zcut_iff (zvC_ok h) hk6, (zWC_sa (zvC_ok h).2.1).fly hk6, zvC_fly h.2.1, hf]; rfl
theorem zm6_oo : ∀ (b0 b1 b2 b3 b4 b5 c0 c1 c2 c3 c4 c5 : Bool), zm6 b0 b1 b2 b3 b4 b5 ||| zm6 c0 c1 c2 c3 c4 c5 = zm6 (b0 || c0) (b1 || c1) (b2 || c2) (b3 || c3) (b4 || c4) (b5 || c5) := by decide +kernel
theorem zmk_oo {P Q : Nat → Bool} : zmk P ||| zmk Q = zmk (fun i => P i || Q i) := by
  rw [zmk_6, zmk_6, zmk_6]; exact zm6_oo _ _ _ _ _ _ _ _ _ _ _ _
/-- the class's ticks: until the kite is cut -/
def zqc (k : Nat) : Nat → zA → zA
  | 0, A => A
  | c + 1, A => if zfly A k = true then zqc k c (zTk A) else A
theorem zqc_no {k : Nat} {A : zA} (h : zfly A k = false) : ∀ c, zqc k c A = A := by
  intro c
  cases c with
  | zero => rfl
  | succ c => show (if zfly A k = true then zqc k c (zTk A) else A) = A; rw [h, if_neg (by decide)]
theorem zqc_rel {k : Nat} : ∀ (c i : Nat) (A : zA) (P : Nat → Bool), zok A → k < zKn A →
    zqc k c A k 7 = (zf zt1 c i (A, zmk P)).1 k 7 ∧ zfly (zqc k c A) k = zfly (zf zt1 c i (A, zmk P)).1 k ∧ zbq (zf zt1 c i (A, zmk P)).2 k = (P k || (zfly A k && !zfly (zf zt1 c i (A, zmk P)).1 k)) := by
  intro c
  induction c with
  | zero =>
    intro i A P h hk
    have hk6 : k < 6 := by have := h.2.1; omega
    refine ⟨rfl, rfl, ?_⟩
    show zbq (zmk P) k = (P k || (zfly A k && !zfly A k))
    rw [zmk_bq hk6]
    cases zfly A k <;> simp
  | succ c ih =>
    intro i A P h hk
    have e : zt1 i (A, zmk P) = (zTk A, zmk (fun q => P q || zcutP (zvC A) q)) := by
      show (zTk A, zmk P ||| zmk (zcutP (zvC A))) = _
      rw [zmk_oo]
    obtain ⟨h1, h2, h3⟩ := ih (i + 1) (zTk A) (fun q => P q || zcutP (zvC A) q) (zTk_ok h) (by rw [zTk_Kn h]; exact hk)
    show zqc k (c + 1) A k 7 = (zf zt1 c (i + 1) (zt1 i (A, zmk P))).1 k 7 ∧ zfly (zqc k (c + 1) A) k = zfly (zf zt1 c (i + 1) (zt1 i (A, zmk P))).1 k ∧ zbq (zf zt1 c (i + 1) (zt1 i (A, zmk P))).2 k = (P k || (zfly A k && !zfly (zf zt1 c (i + 1) (zt1 i (A, zmk P))).1 k))
    rw [e]
    cases hf : zfly A k
    · obtain ⟨n1, n2, n3⟩ := zTk_not h hk hf
      rw [zqc_no n1] at h1 h2
      rw [zqc_no hf]
      refine ⟨by rw [← h1, n2], by rw [hf, ← h2, n1], ?_⟩
      rw [h3]
      show ((P k || zcutP (zvC A) k) || (zfly (zTk A) k && _)) = _
      rw [n1, n3]; simp
    · have z1 : zqc k (c + 1) A = zqc k c (zTk A) := by
        show (if zfly A k = true then zqc k c (zTk A) else A) = _
        rw [if_pos hf]
      rw [z1]
      refine ⟨h1, h2, ?_⟩
      rw [h3]
      show ((P k || zcutP (zvC A) k) || (zfly (zTk A) k && _)) = _
      have e8 := zTk_fly h hk
      cases hcut : zcutP (zvC A) k
      · rw [hf, hcut] at e8
        rw [e8]; simp
      · rw [hf, hcut] at e8
        rw [zqc_no e8, e8] at h2
        rw [e8, ← h2]; simp
theorem zts_7 {k : Nat} : ∀ (c i : Nat) (A : zA) (m : Int32), zok A → k < zKn A → ∃ g, g ≤ 30 * c ∧ (zf zt1 c i (A, m)).1 k 7 = A k 7 + nI g := by
  intro c
  induction c with
  | zero => intro i A m _ _; exact ⟨0, by omega, (Int32.add_zero _).symm⟩
  | succ c ih =>
    intro i A m h hk
    obtain ⟨n, h1, h2, _⟩ := zTk_7 h hk
    obtain ⟨g, h3, h4⟩ := ih (i + 1) (zTk A) (m ||| zmk (zcutP (zvC A))) (zTk_ok h) (by rw [zTk_Kn h]; exact hk)
    refine ⟨n + g, by omega, ?_⟩
    show (zf zt1 c (i + 1) (zTk A, m ||| zmk (zcutP (zvC A)))).1 k 7 = _
    rw [h4, h2, Int32.add_assoc, nI_add]
/-- the gain -/
def zgv (A : zA) (k T : Nat) : Int32 := if zfly (zts A T).1 k = true then (zts A T).1 k 7 - A k 7 else (zts A T).1 k 7 - A k 7 - 2
theorem i_asc (x y : Int32) : x + y - x = y := by rw [Int32.add_comm, Int32.add_sub_cancel]
theorem i_a2 (x y c : Int32) : x + y - c - x = y - c := by
  apply Int32.toBitVec_inj.mp
  simp only [Int32.toBitVec_sub, Int32.toBitVec_add]
  generalize x.toBitVec = a
  generalize y.toBitVec = b
  generalize c.toBitVec = d
  bv_omega
theorem zgv_big {A : zA} {k T : Nat} (h : zok A) (hk : k < zKn A) (hT : T ≤ 50) : ¬ zgv A k T ≤ -3 := by
  obtain ⟨g, h1, h2⟩ := zts_7 (k := k) T 0 A 0 h hk
  have h2' : (zts A T).1 k 7 = A k 7 + nI g := h2
  unfold zgv
  rw [h2', i_asc, zle_i, show (-3 : Int32).toInt = -3 from rfl]
  have t := nI_toInt (show g < 2 ^ 31 by omega)
  split
  · omega
  · rw [zt_sub t (show (2 : Int32).toInt = 2 from rfl) (by omega) (by omega)]; omega
theorem l6_gain {k0 T : Nat} (hT : T ≤ 50) {a2 a3 : Int32} {k : zM → Int32 → Option (Int32 × zM)} : ∀ (c i n : Nat) (M : zM), i + c = T → c < n → zok (zcA M 1) → k0 < zKn (zcA M 1) →
    ∃ M' v, fX6_gainWith_L25 k (nI k0) a2 a3 (nI T) n M (nI i) = k M' v ∧ zcA M' 1 = zqc k0 c (zcA M 1) ∧ zfr 1 1 M M' := by
  intro c
  induction c with
  | zero =>
    intro i n M hi hn h hk
    obtain ⟨n, rfl⟩ : ∃ q, n = q + 1 := ⟨n - 1, by omega⟩
    obtain rfl : i = T := by omega
    refine ⟨M, nI i, ?_, rfl, zfr.refl⟩
    unfold fX6_gainWith_L25
    rw [if_pos (Int32.le_refl _)]
  | succ c ih =>
    intro i n M hi hn h hk
    obtain ⟨n, rfl⟩ : ∃ q, n = q + 1 := ⟨n - 1, by omega⟩
    have hk6 : k0 < 6 := by have := h.2.1; omega
    unfold fX6_gainWith_L25
    rw [if_neg (by rw [zle (by omega) (by omega)]; omega), e2_fly h hk6, zC_some]
    show ∃ M' v, _ = k M' v ∧ zcA M' 1 = (if zfly (zcA M 1) k0 = true then zqc k0 c (zTk (zcA M 1)) else zcA M 1) ∧ _
    cases hf : zfly (zcA M 1) k0
    · rw [if_pos (show zb false = 0 from rfl), if_neg (by decide)]
      exact ⟨M, nI i, rfl, rfl, zfr.refl⟩
    · rw [if_neg (show ¬ zb true = 0 by decide), if_pos rfl]
      obtain ⟨M1, e1, c1, _, _, _, f1⟩ := e4_T (M := M) (j := 1) h
      rw [e1, zC_some, zL_eq, nI_1]
      obtain ⟨M2, v, e2, c2, f2⟩ := ih (i + 1) n M1 (by omega) (by omega) (by rw [c1]; exact zTk_ok h) (by rw [c1, zTk_Kn h]; exact hk)
      rw [c1] at c2
      exact ⟨M2, v, e2, c2, f1.trans f2⟩
theorem ztn3_Kn {A : zA} {k : Nat} {a b : Int32} (hk : k < 6) : zKn (ztn3 A k a b) = zKn A := by
  unfold zKn ztn3; rw [zp_nk (by omega), zp_nk (by omega)]
theorem ztn3_7 {A : zA} {k : Nat} {a b : Int32} : ztn3 A k a b k 7 = A k 7 := by unfold ztn3; rw [zp_np (by omega), zp_np (by omega)]
theorem ztn3_fly {A : zA} {k : Nat} {a b : Int32} (hk : k < 6) : zfly (ztn3 A k a b) k = zfly A k := by
  unfold zfly; rw [ztn3_Kn hk]
  unfold ztn3; rw [zp_np (by omega), zp_np (by omega)]
theorem e6_gain {M : zM} {A : zA} {k T : Nat} {a b : Int32} (hT : T ≤ 50) (h : zok A) (hA : zcA M 0 = A) (hk : k < zKn A) (ha : zwin a (-3) 3 = true) (hb : zwin b (-3) 3 = true) : ∃ M', fX6_gainWith M (nI k) a b (nI T) = some (zgv (ztn3 A k a b) k T, M') ∧ zcA M' 0 = A ∧ zgs M M' := by
  have hk6 : k < 6 := by have := h.2.1; omega
  obtain ⟨M1, e1, c1, f1⟩ := e2_copy (M := M) (j := 1) (j1 := 0) (by omega)
  rw [hA] at c1
  obtain ⟨M2, e2, c2, f2⟩ := e2_turn (M := M1) (j := 1) (a := a) (b := b) hk6
  rw [c1] at c2
  have hB := ztn3_ok h hk6 ha hb
  have hBk : k < zKn (ztn3 A k a b) := by rw [ztn3_Kn hk6]; exact hk
  unfold fX6_gainWith
  rw [e1, zC_some, e2, zC_some]
  have key : ∀ (kk : zM → Int32 → Option (Int32 × zM)), (∀ M3 v, zcA M3 1 = zqc k T (ztn3 A k a b) → zgs M M3 → zcA M3 0 = A → ∃ M', kk M3 v = some (zgv (ztn3 A k a b) k T, M') ∧ zcA M' 0 = A ∧ zgs M M') → ∃ M', fX6_gainWith_L25 kk (nI k) a b (nI T) 2000 M2 0 = some (zgv (ztn3 A k a b) k T, M') ∧ zcA M' 0 = A ∧ zgs M M' := by
    intro kk hkk
    obtain ⟨M3, v, e3, c3, f3⟩ := l6_gain (k0 := k) hT (a2 := a) (a3 := b) (k := kk) T 0 2000 M2 (by omega) (by omega) (by rw [c2]; exact hB) (by rw [c2]; exact hBk)
    rw [c2] at c3
    rw [show (0 : Int32) = nI 0 from rfl, e3]
    exact hkk M3 v c3 (((f1.gs (by omega)).trans (f2.gs (by omega))).trans (f3.gs (by omega))) (by rw [f3.cA (by omega), f2.cA (by omega), f1.cA (by omega)]; exact hA)
  refine key _ fun M3 v m1 m2 m3 => ⟨M3, ?_, m3, m2⟩
  obtain ⟨r1, r2, _⟩ := zqc_rel (k := k) T 0 (ztn3 A k a b) (fun _ => false) hB hBk
  rw [zmk_0] at r1 r2
  have r1' : zqc k T (ztn3 A k a b) k 7 = (zts (ztn3 A k a b) T).1 k 7 := r1
  have r2' : zfly (zqc k T (ztn3 A k a b)) k = zfly (zts (ztn3 A k a b) T).1 k := r2
  have hz : zok (zcA M3 1) := by
    rw [m1]
    have : ∀ c B, zok B → zok (zqc k c B) := by
      intro c
      induction c with
      | zero => intro B hB; exact hB
      | succ c ih =>
        intro B hB
        show zok (if zfly B k = true then zqc k c (zTk B) else B)
        split
        · exact ih _ (zTk_ok hB)
        · exact hB
    exact this T _ hB
  rw [zI_eq (zix_nI hk6 (by omega)), zI_eq (zix_nI hk6 (by omega)), zL_eq, zN_nI (by omega), zr7 (M := M3) (j := 1) hk6, zr7 (M := M3) (j := 0) hk6, e2_fly hz hk6, zC_some, m1, m3, r1', r2']
  unfold zgv
  rw [ztn3_7]
  cases hf : zfly (zts (ztn3 A k a b) T).1 k
  · rw [if_pos (show zb false = 0 from rfl), if_neg (by decide)]
  · rw [if_neg (show ¬ zb true = 0 by decide), if_pos rfl]
theorem e7_gain {N : zM} {A : zA} {k T : Nat} {a b : Int32} (hT : T ≤ 50) (h : zok A) (hA : zrA (N 27 0) = A) (hk : k < zKn A) (hfl : zfly A k = true) (ha : zwin a (-3) 3 = true) (hb : zwin b (-3) 3 = true) : ∃ N', fX7_getsWith N (nI k) a b (nI T) = some (zgv (ztn3 A k a b) k T, N') ∧ zrA (N' 27 0) = A ∧ zgn N N' := by
  have hk6 : k < 6 := by have := h.2.1; omega
  have hB := ztn3_ok h hk6 ha hb
  have hBk : k < zKn (ztn3 A k a b) := by rw [ztn3_Kn hk6]; exact hk
  obtain ⟨N1, a1, b1, d1⟩ := e7_save (N := N)
  rw [hA] at d1
  have n1A : zrA (N1 27 0) = A := by rw [b1 27 0 (by omega)]; exact hA
  obtain ⟨N2, a2, b2, d2⟩ := e7_orders (N := N1) (a := a) (b := b) hk6 (by rw [n1A]; exact h.2.2 k hk) ha hb
  rw [n1A] at b2
  obtain ⟨N3, a3, b3, d3⟩ := e7_passes (N := N2) (show T ≤ 200 by omega) hB b2
  have n28 : zrA (N3 28 0) = A := by rw [d3.1 28 0 (by omega) (by omega) (by omega), d2 28 0 (by omega)]; exact d1
  obtain ⟨N4, a4, b4, d4⟩ := e7_back (N := N3)
  have gN : zgn N N4 := (((gn28 b1).trans d2.gn).trans d3.gn).trans (gn27 b4)
  have gA : zrA (N4 27 0) = A := d4.trans n28
  obtain ⟨_, _, r3⟩ := zqc_rel (k := k) T 0 (ztn3 A k a b) (fun _ => false) hB hBk
  rw [zmk_0, ztn3_fly hk6, hfl] at r3
  have r3' : zbq (zts (ztn3 A k a b) T).2 k = (false || (true && !zfly (zts (ztn3 A k a b) T).1 k)) := r3
  obtain ⟨g, _, hg⟩ := zts_7 (k := k) T 0 (ztn3 A k a b) 0 hB hBk
  have hg' : (zts (ztn3 A k a b) T).1 k 7 = A k 7 + nI g := by rw [← ztn3_7 (A := A) (k := k) (a := a) (b := b)]; exact hg
  unfold fX7_getsWith
  rw [a1, zC_some, a2, zC_some, a3, zC_some, e7_p7 hk6, zC_some, b3]
  simp only [a4, e7_p7 hk6, zC_some, zL_eq, gA]
  unfold zgv
  rw [ztn3_7, hg', i_asc]
  cases hf : zfly (zts (ztn3 A k a b) T).1 k
  · rw [hf] at r3'
    rw [if_pos (of_decide_eq_true r3'), if_neg (by decide), i_a2]
    exact ⟨N4, rfl, gA, gN⟩
  · rw [hf] at r3'
    rw [if_neg (of_decide_eq_false r3'), if_pos rfl, i_a2]
    exact ⟨N4, by rw [show nI g - 0 = nI g from Int32.sub_zero _], gA, gN⟩
/-! the 49 orders -/
def zd3 (i : Nat) : Int32 := nI i - 3
theorem zd3_t {i : Nat} (h : i ≤ 7) : (zd3 i).toInt = (i : Int) - 3 := zt_sub (nI_toInt (by omega)) (show (3 : Int32).toInt = 3 from rfl) (by omega) (by omega)
theorem zd3_1 {i : Nat} (h : i < 7) : zd3 i + 1 = zd3 (i + 1) :=
  Int32.toInt_inj.mp (by rw [zt_add (zd3_t (by omega)) (show (1 : Int32).toInt = 1 from rfl) (by omega) (by omega), zd3_t (by omega)]; omega)
theorem zd3_w {i : Nat} (h : i < 7) : zwin (zd3 i) (-3) 3 = true := by rw [zwin_iff, zd3_t (by omega)]; omega
theorem zd3_lt {i : Nat} (h : i < 7) : ¬ (3 : Int32) < zd3 i := by rw [zlt_i, zd3_t (by omega), show (3 : Int32).toInt = 3 from rfl]; omega
theorem zd3_0 : (-3 : Int32) = zd3 0 := by decide
theorem zd3_6 {i : Nat} (h : i < 7) : ¬ zd3 i = -6 := by rw [zeq_i, zd3_t (by omega), show (-6 : Int32).toInt = -6 from rfl]; omega
abbrev zB3 : Type := Int32 × Int32 × Int32
def zgo (A : zA) (k T i j : Nat) : Int32 := zgv (ztn3 A k (zd3 i) (zd3 j)) k T
def zq6 (A : zA) (k T i : Nat) : Nat → zB3 → zB3 := fun j s => if zgo A k T i j ≤ s.2.2 then s else (zd3 i, zd3 j, zgo A k T i j)
def zq7 (A : zA) (k T i : Nat) : Nat → zB3 → zB3 := fun j s => if s.1 = -6 then (zd3 i, zd3 j, zgo A k T i j) else if zgo A k T i j ≤ s.2.2 then s else (zd3 i, zd3 j, zgo A k T i j)
theorem l6_bi {A : zA} {k0 T x : Nat} (hT : T ≤ 50) (h : zok A) (hk : k0 < zKn A) (hx : x < 7) {a3 : Int32} {k : zM → Int32 → Int32 → Int32 → Int32 → Option (Int32 × zM)} : ∀ (c i n : Nat) (M : zM) (s : zB3), i + c = 7 → c < n → zcA M 0 = A →
    ∃ M', fX6_bestOrder_L75 k (nI k0) (nI T) a3 (zd3 x) n M s.1 s.2.1 s.2.2 (zd3 i) = k M' (zf (zq6 A k0 T x) c i s).1 (zf (zq6 A k0 T x) c i s).2.1 (zf (zq6 A k0 T x) c i s).2.2 (zd3 7) ∧ zcA M' 0 = A ∧ zgs M M' := by
  intro c
  induction c with
  | zero =>
    intro i n M s hi hn hA
    obtain ⟨n, rfl⟩ : ∃ q, n = q + 1 := ⟨n - 1, by omega⟩
    obtain rfl : i = 7 := by omega
    refine ⟨M, ?_, hA, zgs.refl⟩
    unfold fX6_bestOrder_L75
    rw [if_pos (show (3 : Int32) < zd3 7 by decide)]
    rfl
  | succ c ih =>
    intro i n M s hi hn hA
    obtain ⟨n, rfl⟩ : ∃ q, n = q + 1 := ⟨n - 1, by omega⟩
    unfold fX6_bestOrder_L75
    obtain ⟨M1, e1, c1, f1⟩ := e6_gain (M := M) (k := k0) (a := zd3 x) (b := zd3 i) hT h hA hk (zd3_w hx) (zd3_w (by omega))
    rw [if_neg (zd3_lt (by omega)), e1, zC_some, zL_eq, zL_eq, zd3_1 (by omega)]
    obtain ⟨M2, e2, c2, f2⟩ := ih (i + 1) n M1 (zq6 A k0 T x i s) (by omega) (by omega) c1
    refine ⟨M2, ?_, c2, f1.trans f2⟩
    rw [zf_s, ← e2]
    show (if zgo A k0 T x i ≤ s.2.2 then _ else _) = _
    unfold zq6
    by_cases hc : zgo A k0 T x i ≤ s.2.2
    · rw [if_pos hc, if_pos hc]
    · rw [if_neg hc, if_neg hc]; rfl
theorem l7_bi {A : zA} {k0 T x : Nat} (hT : T ≤ 50) (h : zok A) (hk : k0 < zKn A) (hf : zfly A k0 = true) (hx : x < 7) {a3 : Int32} {k : zM → Int32 → Int32 → Int32 → Int32 → Option (Int32 × zM)} : ∀ (c i n : Nat) (M : zM) (s : zB3), i + c = 7 → c < n → zrA (M 27 0) = A →
    ∃ M', fX7_bestOrder_L68 k (nI k0) (nI T) a3 (zd3 x) n M s.1 s.2.1 s.2.2 (zd3 i) = k M' (zf (zq7 A k0 T x) c i s).1 (zf (zq7 A k0 T x) c i s).2.1 (zf (zq7 A k0 T x) c i s).2.2 (zd3 7) ∧ zrA (M' 27 0) = A ∧ zgn M M' := by
  intro c
  induction c with
  | zero =>
    intro i n M s hi hn hA
    obtain ⟨n, rfl⟩ : ∃ q, n = q + 1 := ⟨n - 1, by omega⟩
    obtain rfl : i = 7 := by omega
    refine ⟨M, ?_, hA, zgn.refl⟩
    unfold fX7_bestOrder_L68
    rw [if_pos (show (3 : Int32) < zd3 7 by decide)]
    rfl
  | succ c ih =>
    intro i n M s hi hn hA
    obtain ⟨n, rfl⟩ : ∃ q, n = q + 1 := ⟨n - 1, by omega⟩
    unfold fX7_bestOrder_L68
    obtain ⟨M1, e1, c1, f1⟩ := e7_gain (N := M) (k := k0) (a := zd3 x) (b := zd3 i) hT h hA hk hf (zd3_w hx) (zd3_w (by omega))
    rw [if_neg (zd3_lt (by omega)), e1, zC_some, zL_eq, zL_eq, zd3_1 (by omega)]
    obtain ⟨M2, e2, c2, f2⟩ := ih (i + 1) n M1 (zq7 A k0 T x i s) (by omega) (by omega) c1
    refine ⟨M2, ?_, c2, f1.trans f2⟩
    rw [zf_s, ← e2]
    show (if s.1 = -6 then _ else if zgo A k0 T x i ≤ s.2.2 then _ else _) = _
    unfold zq7
    by_cases h6 : s.1 = -6
    · rw [if_pos h6, if_pos h6]; rfl
    · rw [if_neg h6, if_neg h6]
      by_cases hc : zgo A k0 T x i ≤ s.2.2
      · rw [if_pos hc, if_pos hc]
      · rw [if_neg hc, if_neg hc]; rfl
def zQ6 (A : zA) (k T : Nat) : Nat → zB3 → zB3 := fun i s => zf (zq6 A k T i) 7 0 s
def zQ7 (A : zA) (k T : Nat) : Nat → zB3 → zB3 := fun i s => zf (zq7 A k T i) 7 0 s
theorem zQ6_eq {A : zA} {k T i : Nat} {s : zB3} : zf (zq6 A k T i) 7 0 s = zQ6 A k T i s := rfl
theorem l6_bo {A : zA} {k0 T : Nat} (hT : T ≤ 50) (h : zok A) (hk : k0 < zKn A) {a3 : Int32} {k : zM → Int32 → Int32 → Int32 → Int32 → Option (Int32 × zM)} : ∀ (c i n : Nat) (M : zM) (s : zB3), i + c = 7 → c < n → zcA M 0 = A →
    ∃ M', fX6_bestOrder_L65 k (nI k0) (nI T) a3 n M s.1 s.2.1 s.2.2 (zd3 i) = k M' (zf (zQ6 A k0 T) c i s).1 (zf (zQ6 A k0 T) c i s).2.1 (zf (zQ6 A k0 T) c i s).2.2 (zd3 7) ∧ zcA M' 0 = A ∧ zgs M M' := by
  intro c
  induction c with
  | zero =>
    intro i n M s hi hn hA
    obtain ⟨n, rfl⟩ : ∃ q, n = q + 1 := ⟨n - 1, by omega⟩
    obtain rfl : i = 7 := by omega
    refine ⟨M, ?_, hA, zgs.refl⟩
    unfold fX6_bestOrder_L65
    rw [if_pos (show (3 : Int32) < zd3 7 by decide)]
    rfl
  | succ c ih =>
    intro i n M s hi hn hA
    obtain ⟨n, rfl⟩ : ∃ q, n = q + 1 := ⟨n - 1, by omega⟩
    unfold fX6_bestOrder_L65
    rw [if_neg (zd3_lt (by omega))]
    obtain ⟨M1, e1, c1, f1⟩ := l6_bi (x := i) hT h hk (by omega) (a3 := a3) (k := fun M33 v34 v35 v36 v37 => zL (zd3 i + 1) fun v38 => fX6_bestOrder_L65 k (nI k0) (nI T) a3 n M33 v34 v35 v36 v38) 7 0 2000 M s (by omega) (by omega) hA
    rw [← zd3_0, zQ6_eq] at e1
    rw [e1, zL_eq, zd3_1 (by omega), zf_s]
    obtain ⟨M2, e2, c2, f2⟩ := ih (i + 1) n M1 (zQ6 A k0 T i s) (by omega) (by omega) c1
    exact ⟨M2, e2, c2, f1.trans f2⟩
theorem zQ7_eq {A : zA} {k T i : Nat} {s : zB3} : zf (zq7 A k T i) 7 0 s = zQ7 A k T i s := rfl
theorem l7_bo {A : zA} {k0 T : Nat} (hT : T ≤ 50) (h : zok A) (hk : k0 < zKn A) (hf : zfly A k0 = true) {a3 : Int32} {k : zM → Int32 → Int32 → Int32 → Int32 → Option (Int32 × zM)} : ∀ (c i n : Nat) (M : zM) (s : zB3), i + c = 7 → c < n → zrA (M 27 0) = A →
    ∃ M', fX7_bestOrder_L58 k (nI k0) (nI T) a3 n M s.1 s.2.1 s.2.2 (zd3 i) = k M' (zf (zQ7 A k0 T) c i s).1 (zf (zQ7 A k0 T) c i s).2.1 (zf (zQ7 A k0 T) c i s).2.2 (zd3 7) ∧ zrA (M' 27 0) = A ∧ zgn M M' := by
  intro c
  induction c with
  | zero =>
    intro i n M s hi hn hA
    obtain ⟨n, rfl⟩ : ∃ q, n = q + 1 := ⟨n - 1, by omega⟩
    obtain rfl : i = 7 := by omega
    refine ⟨M, ?_, hA, zgn.refl⟩
    unfold fX7_bestOrder_L58
    rw [if_pos (show (3 : Int32) < zd3 7 by decide)]
    rfl
  | succ c ih =>
    intro i n M s hi hn hA
    obtain ⟨n, rfl⟩ : ∃ q, n = q + 1 := ⟨n - 1, by omega⟩
    unfold fX7_bestOrder_L58
    rw [if_neg (zd3_lt (by omega))]
    obtain ⟨M1, e1, c1, f1⟩ := l7_bi (x := i) hT h hk hf (by omega) (a3 := a3) (k := fun M34 v35 v36 v37 v38 => zL (zd3 i + 1) fun v39 => fX7_bestOrder_L58 k (nI k0) (nI T) a3 n M34 v35 v36 v37 v39) 7 0 2000 M s (by omega) (by omega) hA
    rw [← zd3_0, zQ7_eq] at e1
    rw [e1, zL_eq, zd3_1 (by omega), zf_s]
    obtain ⟨M2, e2, c2, f2⟩ := ih (i + 1) n M1 (zQ7 A k0 T i s) (by omega) (by omega) c1
    exact ⟨M2, e2, c2, f1.trans f2⟩
theorem zf_rel {α β : Type} {f : Nat → α → α} {g : Nat → β → β} {R : α → β → Prop} : ∀ (c i : Nat) (s : α) (t : β), R s t → (∀ k, i ≤ k → k < i + c → ∀ s t, R s t → R (f k s) (g k t)) → R (zf f c i s) (zf g c i t) := by
  intro c
  induction c with
  | zero => intro i s t h _; exact h
  | succ c ih =>
    intro i s t h hs
    exact ih (i + 1) _ _ (hs i (Nat.le_refl _) (by omega) s t h) (fun k h1 h2 => hs k (by omega) (by omega))
def zR3 (s t : zB3) : Prop := s = t ∧ ¬ t.1 = -6
theorem zR3_q {A : zA} {k T i j : Nat} {s t : zB3} (hi : i < 7) (h : zR3 s t) : zR3 (zq6 A k T i j s) (zq7 A k T i j t) := by
  obtain ⟨rfl, h6⟩ := h
  unfold zq6 zq7
  rw [if_neg h6]
  refine ⟨rfl, ?_⟩
  split
  · exact h6
  · exact zd3_6 hi
theorem zR3_Q {A : zA} {k T i : Nat} {s t : zB3} (hi : i < 7) (h : zR3 s t) : zR3 (zQ6 A k T i s) (zQ7 A k T i t) :=
  zf_rel 7 0 s t h fun j _ _ s t h => zR3_q hi h
theorem zbest {A : zA} {k T : Nat} (h : zok A) (hk : k < zKn A) (hT : T ≤ 50) : zf (zQ6 A k T) 7 0 (-3, -3, -3) = zf (zQ7 A k T) 7 0 (-6, -6, 0) := by
  have hk6 : k < 6 := by have := h.2.1; omega
  have hb : ¬ zgo A k T 0 0 ≤ -3 := zgv_big (ztn3_ok h hk6 (zd3_w (by omega)) (zd3_w (by omega))) (by rw [ztn3_Kn hk6]; exact hk) hT
  have s0 : zR3 (zq6 A k T 0 0 (-3, -3, -3)) (zq7 A k T 0 0 (-6, -6, 0)) := by
    unfold zq6 zq7
    rw [if_neg hb, if_pos rfl]
    exact ⟨rfl, zd3_6 (by omega)⟩
  have q6 : ∀ s, zQ6 A k T 0 s = zf (zq6 A k T 0) 6 1 (zq6 A k T 0 0 s) := fun s => by unfold zQ6; exact zf_s (c := 6)
  have q7 : ∀ s, zQ7 A k T 0 s = zf (zq7 A k T 0) 6 1 (zq7 A k T 0 0 s) := fun s => by unfold zQ7; exact zf_s (c := 6)
  have e6 : ∀ s, zf (zQ6 A k T) 7 0 s = zf (zQ6 A k T) 6 1 (zQ6 A k T 0 s) := fun s => zf_s (c := 6)
  have e7 : ∀ s, zf (zQ7 A k T) 7 0 s = zf (zQ7 A k T) 6 1 (zQ7 A k T 0 s) := fun s => zf_s (c := 6)
  have s1 : zR3 (zQ6 A k T 0 (-3, -3, -3)) (zQ7 A k T 0 (-6, -6, 0)) := by
    rw [q6, q7]
    exact zf_rel 6 1 _ _ s0 fun j _ _ s t h => zR3_q (by omega) h
  rw [e6, e7]
  exact (zf_rel (R := zR3) (f := zQ6 A k T) (g := zQ7 A k T) 6 1 _ _ s1 fun j _ hj s t h => zR3_Q (by omega) h).1
theorem j_best {M N : zM} {σ : zSg} {v1 v2 v3 : Int32} (h0 : zOK σ) (h1 : zCR M σ) (h2 : zRR N σ) : zJ (fX6_bestOrder M v1 v2 v3) (fX7_bestOrder N v1 v2 v3) M N := by
  unfold fX6_bestOrder fX7_bestOrder
  rw [gH h0 h1, gK h0 h2, zC_some, zC_some]
  refine zJ.gd h0 h1 h2 fun hw => ?_
  obtain ⟨k, hk, hk6, rfl⟩ := zhas_nI hw h0.1.2.1
  rw [e2_within, e7_within, zC_some, zC_some]
  refine zJ.gd h0 h1 h2 fun hw => ?_
  obtain ⟨T, rfl, _, _, hT⟩ := zwin_n hw (by decide)
  have hT2 : T ≤ 50 := by have : (50 : Int32).toInt = 50 := rfl; omega
  rw [e2_within, e7_within, zC_some, zC_some]
  refine zJ.gd h0 h1 h2 fun _ => ?_
  rw [gF h0 h1 hk6, gG h0 h2 hk, zC_some, zC_some]
  refine zJ.gd h0 h1 h2 fun hf => ?_
  have key6 : ∀ (kk : zM → Int32 → Int32 → Int32 → Int32 → Option (Int32 × zM)) (o7 : Option (Int32 × zM)), (∀ M2, zcA M2 0 = σ.1 → zgs M M2 → zJ (kk M2 (zf (zQ7 σ.1 k T) 7 0 (-6, -6, 0)).1 (zf (zQ7 σ.1 k T) 7 0 (-6, -6, 0)).2.1 (zf (zQ7 σ.1 k T) 7 0 (-6, -6, 0)).2.2 (zd3 7)) o7 M N) → zJ (fX6_bestOrder_L65 kk (nI k) (nI T) v3 2000 M (-3) (-3) (-3) (-3)) o7 M N := by
    intro kk o7 hkk
    obtain ⟨M2, e2, c2, f2⟩ := l6_bo hT2 h0.1 hk (a3 := v3) (k := kk) 7 0 2000 M (-3, -3, -3) (by omega) (by omega) h1.1
    rw [← zd3_0, zbest h0.1 hk hT2] at e2
    have e2' : fX6_bestOrder_L65 kk (nI k) (nI T) v3 2000 M (-3) (-3) (-3) (-3) = _ := e2
    rw [e2']
    exact hkk M2 c2 f2
  have key7 : ∀ (kk : zM → Int32 → Int32 → Int32 → Int32 → Option (Int32 × zM)) (o6 : Option (Int32 × zM)), (∀ N2, zrA (N2 27 0) = σ.1 → zgn N N2 → zJ o6 (kk N2 (zf (zQ7 σ.1 k T) 7 0 (-6, -6, 0)).1 (zf (zQ7 σ.1 k T) 7 0 (-6, -6, 0)).2.1 (zf (zQ7 σ.1 k T) 7 0 (-6, -6, 0)).2.2 (zd3 7)) M N) → zJ o6 (fX7_bestOrder_L58 kk (nI k) (nI T) v3 2000 N (-6) (-6) 0 (-3)) M N := by
    intro kk o6 hkk
    obtain ⟨N2, e2, c2, f2⟩ := l7_bo hT2 h0.1 hk hf (a3 := v3) (k := kk) 7 0 2000 N (-6, -6, 0) (by omega) (by omega) h2.1
    rw [← zd3_0] at e2
    have e2' : fX7_bestOrder_L58 kk (nI k) (nI T) v3 2000 N (-6) (-6) 0 (-3) = _ := e2
    rw [e2']
    exact hkk N2 c2 f2
  refine key6 _ _ fun M2 m1 m2 => ?_
  refine key7 _ _ fun N2 n1 n2 => ?_
  by_cases q0 : v3 = 0
  · rw [if_pos q0, if_pos q0]; exact zJ.ans h0 h1 h2 m2 m1 n2 n1
  rw [if_neg q0, if_neg q0]
  by_cases q1 : v3 = 1
  · rw [if_pos q1, if_pos q1]; exact zJ.ans h0 h1 h2 m2 m1 n2 n1
  rw [if_neg q1, if_neg q1]; exact zJ.ans h0 h1 h2 m2 m1 n2 n1
