def zt1 : Nat → zA × Int32 → zA × Int32 := fun _ s => (zTk s.1, s.2 ||| zmk (zcutP (zvC s.1)))
def zts (A : zA) (T : Nat) : zA × Int32 := zf zt1 T 0 (A, 0)
theorem zts_ok {A : zA} (h : zok A) (T : Nat) : zok (zts A T).1 := zf_inv (P := fun s : zA × Int32 => zok s.1) T 0 (A, 0) h (fun k _ _ s hs => zTk_ok hs)
theorem zts_Kn {A : zA} (h : zok A) (T : Nat) : zok (zts A T).1 ∧ zKn (zts A T).1 = zKn A := zf_inv (P := fun s : zA × Int32 => zok s.1 ∧ zKn s.1 = zKn A) T 0 (A, 0) ⟨h, rfl⟩ (fun k _ _ s hs => ⟨zTk_ok hs.1, (zTk_Kn hs.1).trans hs.2⟩)
theorem zfr.cA {j j' w : Nat} {M M' : zM} (h : zfr j w M M') (hne : j' ≠ j) : zcA M' j' = zcA M j' := zcA_eq (fun k h1 h2 => h k j' (by omega) (by omega) (by omega))
theorem l6_pass {T : Nat} (hT : T ≤ 200) {k : zM → Int32 → Int32 → Option (Int32 × zM)} : ∀ (c i n : Nat) (m : Int32) (M : zM), i + c = T → c < n → zok (zcA M 0) →
    ∃ M', fX6_pass_L29 k (nI T) n M m (nI i) = k M' (zf zt1 c i (zcA M 0, m)).2 (nI T) ∧ zcA M' 0 = (zf zt1 c i (zcA M 0, m)).1 ∧ zfr 0 1 M M' := by
  intro c
  induction c with
  | zero =>
    intro i n m M hi hn h
    obtain ⟨n, rfl⟩ : ∃ q, n = q + 1 := ⟨n - 1, by omega⟩
    obtain rfl : i = T := by omega
    refine ⟨M, ?_, rfl, zfr.refl⟩
    unfold fX6_pass_L29
    rw [if_pos (by rw [zle (by omega) (by omega)]; omega)]
    rfl
  | succ c ih =>
    intro i n m M hi hn h
    obtain ⟨n, rfl⟩ : ∃ q, n = q + 1 := ⟨n - 1, by omega⟩
    unfold fX6_pass_L29
    obtain ⟨M1, e1, c1, u1, _, _, f1⟩ := e4_T (M := M) (j := 0) h
    rw [if_neg (by rw [zle (by omega) (by omega)]; omega), e1, zC_some, zL_eq, zL_eq, u1, nI_1]
    obtain ⟨M2, e2, c2, f2⟩ := ih (i + 1) n (m ||| zmk (zcutP (zvC (zcA M 0)))) M1 (by omega) (by omega) (by rw [c1]; exact zTk_ok h)
    rw [c1] at e2 c2
    exact ⟨M2, e2, c2, f1.trans f2⟩
theorem l6_ifp {T : Nat} (hT : T ≤ 200) {a2 : Int32} {k : zM → Int32 → Int32 → Option (Int32 × zM)} : ∀ (c i n : Nat) (m : Int32) (M : zM), i + c = T → c < n → zok (zcA M 1) →
    ∃ M', fX6_ifPassed_L39 k (nI T) a2 n M m (nI i) = k M' (zf zt1 c i (zcA M 1, m)).2 (nI T) ∧ zcA M' 1 = (zf zt1 c i (zcA M 1, m)).1 ∧ zfr 1 1 M M' := by
  intro c
  induction c with
  | zero =>
    intro i n m M hi hn h
    obtain ⟨n, rfl⟩ : ∃ q, n = q + 1 := ⟨n - 1, by omega⟩
    obtain rfl : i = T := by omega
    refine ⟨M, ?_, rfl, zfr.refl⟩
    unfold fX6_ifPassed_L39
    rw [if_pos (by rw [zle (by omega) (by omega)]; omega)]
    rfl
  | succ c ih =>
    intro i n m M hi hn h
    obtain ⟨n, rfl⟩ : ∃ q, n = q + 1 := ⟨n - 1, by omega⟩
    unfold fX6_ifPassed_L39
    obtain ⟨M1, e1, c1, u1, _, _, f1⟩ := e4_T (M := M) (j := 1) h
    rw [if_neg (by rw [zle (by omega) (by omega)]; omega), e1, zC_some, zL_eq, zL_eq, u1, nI_1]
    obtain ⟨M2, e2, c2, f2⟩ := ih (i + 1) n (m ||| zmk (zcutP (zvC (zcA M 1)))) M1 (by omega) (by omega) (by rw [c1]; exact zTk_ok h)
    rw [c1] at e2 c2
    exact ⟨M2, e2, c2, f1.trans f2⟩
def zcm (A : zA) : Int32 := zmk (zcutP (zvC A))
def zgm (A : zA) : Int32 := zmk (zgotP (zvC A))
def zfc : Nat → Nat → zA → Option (Nat × Int32 × Int32)
  | 0, _, _ => none
  | c + 1, i, A => if zcm A = 0 then zfc c (i + 1) (zTk A) else some (i, zcm A, zgm A)
def zfa (v : Int32) (t : Nat) (m g : Int32) : Int32 := if v = 0 then nI t else if v = 1 then zlow (zbq m) 6 (-6) else g
theorem l6_low {m : Int32} {M : zM} : ∀ (c i n : Nat), i + c = 6 → c < n → (∀ q, q < i → zbq m q = false) → fX6_lowestOf_L2 (fun M22 v23 => some ((-6), M22)) m n M (nI i) = some (zlow (zbq m) 6 (-6), M) := by
  intro c
  induction c with
  | zero =>
    intro i n hi hn h
    obtain ⟨n, rfl⟩ : ∃ q, n = q + 1 := ⟨n - 1, by omega⟩
    obtain rfl : i = 6 := by omega
    rw [zlow_none 6 (-6) h]
    rfl
  | succ c ih =>
    intro i n hi hn h
    obtain ⟨n, rfl⟩ : ∃ q, n = q + 1 := ⟨n - 1, by omega⟩
    unfold fX6_lowestOf_L2
    have hc : ¬ (6 : Int32) ≤ nI i := nI_ge (a := i) (b := 6) (by omega) (by omega)
    rw [if_neg hc]
    by_cases hb : ((m >>> (nI i &&& 31)) &&& 1) = 1
    · rw [if_pos hb, zlow_eq (p := i) (decide_eq_true hb) h 6 (-6) (by omega)]
    · rw [if_neg hb, zL_eq, nI_1]
      refine ih (i + 1) n (by omega) (by omega) fun q hq => ?_
      by_cases hqi : q = i
      · rw [hqi]; exact decide_eq_false hb
      · exact h q (by omega)
theorem e6_low {m : Int32} {M : zM} : fX6_lowestOf M m = some (zlow (zbq m) 6 (-6), M) := l6_low 6 0 2000 (by omega) (by omega) (fun q h => by omega)
theorem l6_fc {v : Int32} {k : zM → Int32 → Option (Int32 × zM)} : ∀ (c i n : Nat) (M : zM), i + c = 301 → c < n → zok (zcA M 1) →
    ∃ M', fX6_firstCut_L25 k v n M (nI i) = (match zfc c i (zcA M 1) with
      | none => k M' (nI 301)
      | some q => some (zfa v q.1 q.2.1 q.2.2, M')) ∧ zfr 1 1 M M' := by
  intro c
  induction c with
  | zero =>
    intro i n M hi hn h
    obtain ⟨n, rfl⟩ : ∃ q, n = q + 1 := ⟨n - 1, by omega⟩
    obtain rfl : i = 301 := by omega
    exact ⟨M, rfl, zfr.refl⟩
  | succ c ih =>
    intro i n M hi hn h
    obtain ⟨n, rfl⟩ : ∃ q, n = q + 1 := ⟨n - 1, by omega⟩
    unfold fX6_firstCut_L25
    obtain ⟨M1, e1, c1, u1, u2, _, f1⟩ := e4_T (M := M) (j := 1) h
    rw [if_neg (by rw [show (300 : Int32) = nI 300 from rfl, zlt (by omega) (by omega)]; omega), e1, zC_some, u1]
    show ∃ M', (if zcm (zcA M 1) = 0 then _ else _) = (match (if zcm (zcA M 1) = 0 then zfc c (i + 1) (zTk (zcA M 1)) else some (i, zcm (zcA M 1), zgm (zcA M 1))) with
      | none => k M' (nI 301)
      | some q => some (zfa v q.1 q.2.1 q.2.2, M')) ∧ zfr 1 1 M M'
    by_cases hz : zcm (zcA M 1) = 0
    · rw [if_pos hz, if_pos hz, zL_eq, nI_1]
      obtain ⟨M2, e2, f2⟩ := ih (i + 1) n M1 (by omega) (by omega) (by rw [c1]; exact zTk_ok h)
      rw [c1] at e2
      exact ⟨M2, e2, f1.trans f2⟩
    · rw [if_neg hz, if_neg hz]
      refine ⟨M1, ?_, f1⟩
      unfold fX6_aboutCut
      show _ = some (zfa v i (zcm (zcA M 1)) (zgm (zcA M 1)), M1)
      unfold zfa
      by_cases q0 : v = 0
      · rw [if_pos q0, if_pos q0, zC_some]
      · rw [if_neg q0, if_neg q0]
        by_cases q1 : v = 1
        · rw [if_pos q1, if_pos q1, e6_low, zC_some, zC_some, u1]; rfl
        · rw [if_neg q1, if_neg q1, zC_some, u2]; rfl
def zme (a b : Nat) : Nat → Nat → zA → Option Nat
  | 0, _, _ => none
  | c + 1, i, A => if zcr (zvC A) a b = true then some i else zme a b c (i + 1) (zTk A)
theorem l6_me {a b : Nat} (ha : a < 6) (hb : b < 6) {k : zM → Int32 → Option (Int32 × zM)} : ∀ (c i n : Nat) (M : zM), i + c = 301 → c < n → zok (zcA M 1) →
    ∃ M', fX6_meets_L95 k (nI a) (nI b) n M (nI i) = (match zme a b c i (zcA M 1) with
      | none => k M' (nI 301)
      | some t => some (nI t, M')) ∧ zfr 1 1 M M' := by
  intro c
  induction c with
  | zero =>
    intro i n M hi hn h
    obtain ⟨n, rfl⟩ : ∃ q, n = q + 1 := ⟨n - 1, by omega⟩
    obtain rfl : i = 301 := by omega
    exact ⟨M, rfl, zfr.refl⟩
  | succ c ih =>
    intro i n M hi hn h
    obtain ⟨n, rfl⟩ : ∃ q, n = q + 1 := ⟨n - 1, by omega⟩
    unfold fX6_meets_L95
    obtain ⟨M1, e1, c1, _, _, w1, f1⟩ := e4_T (M := M) (j := 1) h
    have hC := zvC_ok h
    have hx := e5_cross (M := M1) (w := 1) (a := a) (b := b) (t := zcr (zvC (zcA M 1)) a b) ha hb w1 (fun q hq => znt_6 hC.2.1 hq) (znt_mem hC.2.1)
    rw [if_neg (by rw [show (300 : Int32) = nI 300 from rfl, zlt (by omega) (by omega)]; omega), e1, zC_some, hx, zC_some]
    show ∃ M', _ = (match (if zcr (zvC (zcA M 1)) a b = true then some i else zme a b c (i + 1) (zTk (zcA M 1))) with
      | none => k M' (nI 301)
      | some t => some (nI t, M')) ∧ zfr 1 1 M M'
    cases hz : zcr (zvC (zcA M 1)) a b with
    | false =>
      rw [if_pos (show zb false = 0 from rfl), if_neg (by decide), zL_eq, nI_1]
      obtain ⟨M2, e2, f2⟩ := ih (i + 1) n M1 (by omega) (by omega) (by rw [c1]; exact zTk_ok h)
      rw [c1] at e2
      exact ⟨M2, e2, f1.trans f2⟩
    | true =>
      rw [if_neg (show ¬ zb true = 0 by decide), if_pos rfl]
      exact ⟨M1, rfl, f1⟩
theorem n6_big {i : Nat} (h : i < 2 ^ 31) : ¬ nI i = -6 := by
  intro e
  have := congrArg Int32.toInt e
  rw [nI_toInt (by omega), show (-6 : Int32).toInt = -6 from rfl] at this
  omega
theorem zf_zp {k a : Nat} : ∀ (c i : Nat) (A : zA) (k' p' : Nat), zf (fun p A => zp A k (a + p) 0) c i A k' p' = if k' = k ∧ a + i ≤ p' ∧ p' < a + i + c then 0 else A k' p' := by
  intro c
  induction c with
  | zero => intro i A k' p'; rw [if_neg (by omega)]; rfl
  | succ c ih =>
    intro i A k' p'
    show zf (fun p A => zp A k (a + p) 0) c (i + 1) (zp A k (a + i) 0) k' p' = _
    rw [ih]
    simp only [zp]
    by_cases h1 : k' = k ∧ a + (i + 1) ≤ p' ∧ p' < a + (i + 1) + c
    · rw [if_pos h1, if_pos (by omega)]
    · rw [if_neg h1]
      by_cases h2 : k' = k ∧ p' = a + i
      · rw [if_pos h2, if_pos (by omega)]
      · rw [if_neg h2, if_neg (by omega)]
theorem zf_zp0 {k : Nat} (c i : Nat) (A : zA) (k' p' : Nat) : zf (fun p A => zp A k p 0) c i A k' p' = if k' = k ∧ i ≤ p' ∧ p' < i + c then 0 else A k' p' := by
  have h := zf_zp (k := k) (a := 0) c i A k' p'
  simp only [Nat.zero_add] at h
  exact h
def zs6 (A : zA) (k : Nat) : zA := zp (zp (zp (zp (zp (zp A k 0 (A k 9)) k 1 (A k 10)) k 2 (A k 11)) k 3 0) k 4 0) k 8 0
def zsd (A : zA) (k : Nat) : zA := zf (fun p A => zp A k (12 + p) 0) 32 0 (zs6 A k)
theorem zs6_nk {A : zA} {k k' p' : Nat} (h : k' ≠ k) : zs6 A k k' p' = A k' p' := by
  unfold zs6; rw [zp_nk h, zp_nk h, zp_nk h, zp_nk h, zp_nk h, zp_nk h]
theorem zsd_nk {A : zA} {k k' p' : Nat} (h : k' ≠ k) : zsd A k k' p' = A k' p' := by
  unfold zsd; rw [zf_zp, if_neg (by omega), zs6_nk h]
theorem l2_send {j k0 : Nat} (hk : k0 < 6) {k : zM → Int32 → Option (Unit × zM)} : ∀ (c i n : Nat) (M : zM), i + c = 32 → c < n →
    ∃ M', fX2_sendUp_L59 k j (nI k0) n M (nI i) = k M' (nI 32) ∧ zcA M' j = zf (fun p A => zp A k0 (12 + p) 0) c i (zcA M j) ∧ zfk j M M' := by
  intro c
  induction c with
  | zero =>
    intro i n M hi hn
    obtain ⟨n, rfl⟩ : ∃ q, n = q + 1 := ⟨n - 1, by omega⟩
    obtain rfl : i = 32 := by omega
    exact ⟨M, rfl, rfl, zfk.refl⟩
  | succ c ih =>
    intro i n M hi hn
    obtain ⟨n, rfl⟩ : ∃ q, n = q + 1 := ⟨n - 1, by omega⟩
    unfold fX2_sendUp_L59
    have hc : ¬ (32 : Int32) ≤ nI i := nI_ge (a := i) (b := 32) (by omega) (by omega)
    rw [if_neg hc, z2ix, zI_eq (zix_nI (show 32 * k0 + i < 192 by omega) (by omega)), zN_nI (show 32 * k0 + i < 2 ^ 31 by omega), zL_eq, zL_eq, nI_1]
    obtain ⟨M', e, c', f⟩ := ih (i + 1) n (zw M 14 j (32 * k0 + i) 0) (by omega) (by omega)
    refine ⟨M', e, ?_, (zfk.w (by omega)).trans f⟩
    rw [c', zc_w hk (by omega)]
    rfl
theorem e2_send {M : zM} {j k : Nat} (hk : k < 6) : ∃ M', fX2_sendUp M j (nI k) = some ((), M') ∧ zcA M' j = zsd (zcA M j) k ∧ zfk j M M' := by
  have hx := zix_nI hk (show 6 < 2 ^ 31 by omega)
  have hn := zN_nI (show k < 2 ^ 31 by omega)
  have key : ∀ M1, zcA M1 j = zs6 (zcA M j) k → zfk j M M1 → ∃ M', fX2_sendUp_L59 (fun M29 v30 => some ((), M29)) j (nI k) 2000 M1 0 = some ((), M') ∧ zcA M' j = zsd (zcA M j) k ∧ zfk j M M' := by
    intro M1 h1 h2
    obtain ⟨M', e, c, f⟩ := l2_send (j := j) hk (k := fun M29 v30 => some ((), M29)) 32 0 2000 M1 (by omega) (by omega)
    rw [h1] at c
    exact ⟨M', e, c, h2.trans f⟩
  unfold fX2_sendUp
  simp only [zI_eq hx, zL_eq, hn]
  refine key _ ?_ ?_
  · rw [zc8 hk, zc4 hk, zc3 hk, zc2 hk, zc1 hk, zc0 hk]
    rw [zw_ne (k := 3) (by omega), zw_ne (k := 2) (k' := 13) (by omega), zw_ne (k := 2) (k' := 12) (by omega), zr9 (M := M) (j := j) hk, zr10 (M := M) (j := j) hk, zr11 (M := M) (j := j) hk]
    rfl
  · exact (((((zfk.w (by omega)).trans (zfk.w (by omega))).trans (zfk.w (by omega))).trans (zfk.w (by omega))).trans (zfk.w (by omega))).trans (zfk.w (by omega))
def zl6 (A : zA) (K : Nat) (v1 v2 v3 v4 v5 : Int32) : zA := zp (zp (zp (zp (zp (zp A K 9 v1) K 10 v2) K 11 v3) K 5 v4) K 6 v5) K 7 0
def zln (A : zA) (K : Nat) (v1 v2 v3 v4 v5 : Int32) : zA := zp (zsd (zl6 A K v1 v2 v3 v4 v5) K) 6 0 (A 6 0 + 1)
theorem zl6_nk {A : zA} {K k p : Nat} {v1 v2 v3 v4 v5 : Int32} (h : k ≠ K) : zl6 A K v1 v2 v3 v4 v5 k p = A k p := by
  unfold zl6; rw [zp_nk h, zp_nk h, zp_nk h, zp_nk h, zp_nk h, zp_nk h]
theorem e2_add {M : zM} {j K : Nat} {A : zA} {v1 v2 v3 v4 v5 : Int32} (hA : zcA M j = A) (h0 : M 1 j 0 = nI K) (hK : K < 6) : ∃ M', fX2_addKite M j v1 v2 v3 v4 v5 = some (nI K, M') ∧ zcA M' j = zln A K v1 v2 v3 v4 v5 ∧ zfk j M M' := by
  have hx := zix_nI hK (show 6 < 2 ^ 31 by omega)
  have hn := zN_nI (show K < 2 ^ 31 by omega)
  have key : ∀ M1, zcA M1 j = zl6 A K v1 v2 v3 v4 v5 → zfk j M M1 → ∃ M', (zC (fX2_sendUp M1 j (nI K)) fun _ M28 => some (nI K, zw M28 1 j 0 ((M28 1 j 0) + 1))) = some (nI K, M') ∧ zcA M' j = zln A K v1 v2 v3 v4 v5 ∧ zfk j M M' := by
    intro M1 h1 h2
    obtain ⟨M2, e, c, f⟩ := e2_send (M := M1) (j := j) hK
    rw [h1] at c
    have e6 : M2 1 j 0 = A 6 0 := by
      rw [zs0 (M := M2) (j := j), c, zsd_nk (by omega), zl6_nk (by omega)]
    rw [e, zC_some, e6]
    refine ⟨_, rfl, ?_, (h2.trans f).trans (zfk.w (by omega))⟩
    rw [zcs0, c]; rfl
  unfold fX2_addKite
  rw [h0]
  simp only [zI_eq hx, zL_eq, hn]
  refine key _ ?_ ?_
  · rw [zc7 hK, zc6 hK, zc5 hK, zc11 hK, zc10 hK, zc9 hK, hA]; rfl
  · exact (((((zfk.w (by omega)).trans (zfk.w (by omega))).trans (zfk.w (by omega))).trans (zfk.w (by omega))).trans (zfk.w (by omega))).trans (zfk.w (by omega))
def zlD (A : zA) (K : Nat) (v1 v2 v3 v4 v5 : Int32) : zA := zp (zp (zp (zp (zp (zp (zp (zp (zf (fun p A => zp A K (0 + p) 0) 44 0 A) K 0 v1) K 1 v2) K 2 v3) K 5 v4) K 6 v5) K 9 v1) K 10 v2) K 11 v3
theorem zlD_nk {A : zA} {K k p : Nat} {v1 v2 v3 v4 v5 : Int32} (h : k ≠ K) : zlD A K v1 v2 v3 v4 v5 k p = A k p := by
  unfold zlD; rw [zp_nk h, zp_nk h, zp_nk h, zp_nk h, zp_nk h, zp_nk h, zp_nk h, zp_nk h, zf_zp, if_neg (by omega)]
theorem zln_row {A : zA} {K p : Nat} {v1 v2 v3 v4 v5 : Int32} (hK : K < 6) : zln A K v1 v2 v3 v4 v5 K p = zsd (zl6 A K v1 v2 v3 v4 v5) K K p := by
  unfold zln; rw [zp_nk (by omega)]
theorem zlD_row {A : zA} {K p : Nat} {v1 v2 v3 v4 v5 : Int32} : zlD A K v1 v2 v3 v4 v5 K p = zsd (zl6 A K v1 v2 v3 v4 v5) K K p := by
  unfold zlD zsd zs6 zl6
  rcases (show p = 0 ∨ p = 1 ∨ p = 2 ∨ p = 3 ∨ p = 4 ∨ p = 5 ∨ p = 6 ∨ p = 7 ∨ p = 8 ∨ p = 9 ∨ p = 10 ∨ p = 11 ∨ (12 ≤ p ∧ p < 44) ∨ 44 ≤ p by omega) with rfl | rfl | rfl | rfl | rfl | rfl | rfl | rfl | rfl | rfl | rfl | rfl | h | h
  · simp [zf_zp, zf_zp0, zp]
  · simp [zf_zp, zf_zp0, zp]
  · simp [zf_zp, zf_zp0, zp]
  · simp [zf_zp, zf_zp0, zp]
  · simp [zf_zp, zf_zp0, zp]
  · simp [zf_zp, zf_zp0, zp]
  · simp [zf_zp, zf_zp0, zp]
  · simp [zf_zp, zf_zp0, zp]
  · simp [zf_zp, zf_zp0, zp]
  · simp [zf_zp, zf_zp0, zp]
  · simp [zf_zp, zf_zp0, zp]
  · simp [zf_zp, zf_zp0, zp]
  · rw [zp_np (by omega), zp_np (by omega), zp_np (by omega), zp_np (by omega), zp_np (by omega), zp_np (by omega), zp_np (by omega), zp_np (by omega), zf_zp, zf_zp, if_pos (by omega), if_pos (by omega)]
  · rw [zp_np (by omega), zp_np (by omega), zp_np (by omega), zp_np (by omega), zp_np (by omega), zp_np (by omega), zp_np (by omega), zp_np (by omega), zf_zp, zf_zp, if_neg (by omega), if_neg (by omega)]
    rw [zp_np (by omega), zp_np (by omega), zp_np (by omega), zp_np (by omega), zp_np (by omega), zp_np (by omega), zp_np (by omega), zp_np (by omega), zp_np (by omega), zp_np (by omega), zp_np (by omega), zp_np (by omega)]
theorem zln_eq {A : zA} {K : Nat} {v1 v2 v3 v4 v5 : Int32} (hK : K < 6) : zp (zlD A K v1 v2 v3 v4 v5) 6 0 (zlD A K v1 v2 v3 v4 v5 6 0 + 1) = zln A K v1 v2 v3 v4 v5 := by
  funext k p
  by_cases hk : k = K
  · subst hk
    rw [zln_row hK, zp_nk (by omega), zlD_row]
  · unfold zln
    rw [zlD_nk (k := 6) (by omega)]
    by_cases h6 : k = 6 ∧ p = 0
    · obtain ⟨rfl, rfl⟩ := h6
      rw [zp_at, zp_at]
    · rw [zp_ne h6, zp_ne h6, zlD_nk hk, zsd_nk hk, zl6_nk hk]
theorem zsd_9 {A : zA} {k p : Nat} (h : p = 5 ∨ p = 6 ∨ p = 7 ∨ p = 9 ∨ p = 10 ∨ p = 11) : zsd A k k p = A k p := by
  unfold zsd zs6
  rw [zf_zp, if_neg (by omega), zp_np (by omega), zp_np (by omega), zp_np (by omega), zp_np (by omega), zp_np (by omega), zp_np (by omega)]
theorem zsd_v {A : zA} {k : Nat} : zsd A k k 0 = A k 9 ∧ zsd A k k 1 = A k 10 ∧ zsd A k k 2 = A k 11 ∧ zsd A k k 3 = 0 ∧ zsd A k k 4 = 0 ∧ zsd A k k 8 = 0 ∧ ∀ q, q < 32 → zsd A k k (12 + q) = 0 := by
  unfold zsd zs6
  refine ⟨?_, ?_, ?_, ?_, ?_, ?_, fun q hq => ?_⟩
  · simp [zf_zp, zp]
  · simp [zf_zp, zp]
  · simp [zf_zp, zp]
  · simp [zf_zp, zp]
  · simp [zf_zp, zp]
  · simp [zf_zp, zp]
  · rw [zf_zp, if_pos (by omega)]
theorem zsd_kite {A : zA} {k : Nat} (h5 : 0 ≤ (A k 5).toInt ∧ (A k 5).toInt ≤ 5) (h6 : 10 ≤ (A k 6).toInt ∧ (A k 6).toInt ≤ 200) (h9 : 0 ≤ (A k 9).toInt ∧ (A k 9).toInt ≤ 63) (h10 : 0 ≤ (A k 10).toInt ∧ (A k 10).toInt ≤ 63) (h11 : 1 ≤ (A k 11).toInt ∧ (A k 11).toInt ≤ 47) : zkite (zsd A k) k := by
  obtain ⟨e0, e1, e2, e3, e4, e8, ew⟩ := zsd_v (A := A) (k := k)
  have z0 : (0 : Int32).toInt = 0 := rfl
  refine ⟨by rw [e0]; exact h9, by rw [e1]; exact h10, by rw [e2]; exact h11, by rw [e3, z0]; omega, by rw [e4, z0]; omega, by rw [zsd_9 (by omega)]; exact h5, by rw [zsd_9 (by omega)]; exact h6, by rw [e8, z0]; omega, by rw [zsd_9 (by omega)]; exact h9, by rw [zsd_9 (by omega)]; exact h10, by rw [zsd_9 (by omega)]; exact h11, fun q hq => by rw [ew q hq, z0]; omega, fun _ q hq => by rw [ew q hq, zsd_9 (by omega), z0]; omega⟩
theorem zln_ok {A : zA} {K : Nat} {v1 v2 v3 v4 v5 : Int32} (h : zok A) (e : zKn A = K) (hK : K < 6) (w1 : 0 ≤ v1.toInt ∧ v1.toInt ≤ 63) (w2 : 0 ≤ v2.toInt ∧ v2.toInt ≤ 63) (w3 : 1 ≤ v3.toInt ∧ v3.toInt ≤ 47) (w4 : 0 ≤ v4.toInt ∧ v4.toInt ≤ 5) (w5 : 10 ≤ v5.toInt ∧ v5.toInt ≤ 200) : zok (zln A K v1 v2 v3 v4 v5) := by
  have e6 : zln A K v1 v2 v3 v4 v5 6 0 = nI (K + 1) := by
    unfold zln; rw [zp_at, h.1, e, nI_1]
  have eK : zKn (zln A K v1 v2 v3 v4 v5) = K + 1 := by
    unfold zKn; rw [e6, zN_nI (by omega)]
  refine ⟨by rw [eK]; exact e6, by rw [eK]; omega, fun k hk => ?_⟩
  rw [eK] at hk
  by_cases hc : k = K
  · subst hc
    refine zkite_congr (A := zsd (zl6 A k v1 v2 v3 v4 v5) k) (fun p => zln_row hK) (zsd_kite ?_ ?_ ?_ ?_ ?_)
    · simp only [zl6, zp]; simpa using w4
    · simp only [zl6, zp]; simpa using w5
    · simp only [zl6, zp]; simpa using w1
    · simp only [zl6, zp]; simpa using w2
    · simp only [zl6, zp]; simpa using w3
  · refine zkite_congr (A := A) (fun p => ?_) (h.2.2 k (by omega))
    unfold zln
    rw [zp_nk (by omega), zsd_nk hc, zl6_nk hc]
theorem e2_room {M : zM} {K : Nat} (h : M 1 0 0 = nI K) (hK : K ≤ 6) : fX2_hasRoom M 0 = some (zb (decide (K < 6)), M) := by
  unfold fX2_hasRoom
  rw [h, if_neg (nI_pos (by omega))]
  by_cases c : K < 6
  · rw [if_neg (show ¬ (6 : Int32) ≤ nI K from nI_ge (a := K) (b := 6) c (by omega)), decide_eq_true c]; rfl
  · rw [if_pos (by rw [show (6 : Int32) = nI 6 from rfl, zle (by omega) (by omega)]; omega), decide_eq_false c]; rfl
theorem zsd_Kn {A : zA} {k : Nat} (hk : k < 6) : zKn (zsd A k) = zKn A := by unfold zKn; rw [zsd_nk (by omega)]
theorem zsd_ok {A : zA} {k : Nat} (h : zok A) (hk : k < zKn A) : zok (zsd A k) := by
  have hk6 : k < 6 := by have := h.2.1; omega
  refine zok_row h (fun k' p hne => zsd_nk hne) hk6 fun _ hz => ?_
  obtain ⟨a0, a1, a2, a3, a4, a5, a6, a8, a9, a10, a11, a12, a13⟩ := hz
  exact zsd_kite a5 a6 a9 a10 a11
def zrd (A : zA) : zA := zf (fun k A => zsd A k) (zKn A) 0 A
theorem zrd_ok {A : zA} (h : zok A) : zok (zrd A) ∧ zKn (zrd A) = zKn A :=
  zf_inv (P := fun B => zok B ∧ zKn B = zKn A) (zKn A) 0 A ⟨h, rfl⟩ fun k _ hk s hs => ⟨zsd_ok hs.1 (by rw [hs.2]; omega), by rw [zsd_Kn (by have := h.2.1; omega)]; exact hs.2⟩
theorem l2_begin {j K : Nat} {k : zM → Int32 → Option (Unit × zM)} : ∀ (c i n : Nat) (M : zM), i + c = 6 → c < n → zok (zcA M j) → zKn (zcA M j) = K →
    ∃ M', fX2_beginAnew_L2 k j n M (nI i) = k M' (nI 6) ∧ zcA M' j = zf (fun k A => if k < K then zsd A k else A) c i (zcA M j) ∧ zfk j M M' := by
  intro c
  induction c with
  | zero =>
    intro i n M hi hn h hK
    obtain ⟨n, rfl⟩ : ∃ q, n = q + 1 := ⟨n - 1, by omega⟩
    obtain rfl : i = 6 := by omega
    exact ⟨M, rfl, rfl, zfk.refl⟩
  | succ c ih =>
    intro i n M hi hn h hK
    obtain ⟨n, rfl⟩ : ∃ q, n = q + 1 := ⟨n - 1, by omega⟩
    unfold fX2_beginAnew_L2
    have hc : ¬ (6 : Int32) ≤ nI i := nI_ge (a := i) (b := 6) (by omega) (by omega)
    rw [if_neg hc, e2_has h, zC_some, zhas_of (by omega), hK]
    show ∃ M', _ = k M' (nI 6) ∧ zcA M' j = zf (fun k A => if k < K then zsd A k else A) c (i + 1) (if i < K then zsd (zcA M j) i else zcA M j) ∧ zfk j M M'
    by_cases hi2 : i < K
    · rw [if_neg (by rw [zb_0]; simpa using hi2), if_pos hi2]
      obtain ⟨M1, e1, c1, f1⟩ := e2_send (M := M) (j := j) (k := i) (by omega)
      rw [e1, zC_some, zL_eq, nI_1]
      obtain ⟨M2, e2, c2, f2⟩ := ih (i + 1) n M1 (by omega) (by omega) (by rw [c1]; exact zsd_ok h (by omega)) (by rw [c1, zsd_Kn (by omega)]; exact hK)
      rw [c1] at c2
      exact ⟨M2, e2, c2, f1.trans f2⟩
    · rw [if_pos (by rw [zb_0]; simpa using hi2), if_neg hi2, zL_eq, nI_1]
      exact ih (i + 1) n M (by omega) (by omega) h hK
theorem zf_s {α : Type} {f : Nat → α → α} {c i : Nat} {s : α} : zf f (c + 1) i s = zf f c (i + 1) (f i s) := rfl
theorem zok_61 {A : zA} {v : Int32} (h : zok A) : zok (zp A 6 1 v) := by
  have e : zKn (zp A 6 1 v) = zKn A := by unfold zKn; rw [zp_np (by omega)]
  refine ⟨by rw [e, zp_np (by omega)]; exact h.1, by rw [e]; exact h.2.1, fun k hk => ?_⟩
  rw [e] at hk
  exact zkite_congr (fun p => zp_nk (by have := h.2.1; omega)) (h.2.2 k hk)
