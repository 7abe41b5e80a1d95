/-! ===== a tick of the class ===== -/
def zsl (C : zA) (k o : Nat) : Int32 := (1 + zabs (C k 3 - C o 3)) + zabs (C k 4 - C o 4)
def zrb (C : zA) (k o : Nat) : Int32 := if zst C k o then 2 * (C o 5 * zsl C k o) else C o 5 * zsl C k o
def zad (C : zA) (A : zA) (q : Nat × Nat) : zA := zp A q.1 (12 + zpl C q.1 q.2) (A q.1 (12 + zpl C q.1 q.2) + zrb C q.1 q.2)
def zht (C A : zA) (k o : Nat) : Bool := decide ((A k 6).toInt ≤ (A k (12 + zpl C k o)).toInt)
def zbit (k : Nat) : Int32 := 1 <<< (nI k &&& 31)
def zbq (m : Int32) (k : Nat) : Bool := decide (((m >>> (nI k &&& 31)) &&& 1) = 1)
def zfr (j w : Nat) (M M' : zM) : Prop := ∀ k i, ¬ (1 ≤ k ∧ k ≤ 14 ∧ i = j) → ¬ (15 ≤ k ∧ k ≤ 19 ∧ i = w) → k ≠ 20 → M' k i = M k i
theorem zfr.refl {j w : Nat} {M : zM} : zfr j w M M := fun _ _ _ _ _ => rfl
theorem zfr.trans {j w : Nat} {M M1 M2 : zM} (h : zfr j w M M1) (h2 : zfr j w M1 M2) : zfr j w M M2 := fun k i a b c => (h2 k i a b c).trans (h k i a b c)
/-- only the notes' rows change -/
def zfw (w : Nat) (M M' : zM) : Prop := ∀ k i, ¬ (15 ≤ k ∧ k ≤ 19 ∧ i = w) → M' k i = M k i
theorem zfw.refl {w : Nat} {M : zM} : zfw w M M := fun _ _ _ => rfl
theorem zfw.trans {w : Nat} {M M1 M2 : zM} (h : zfw w M M1) (h2 : zfw w M1 M2) : zfw w M M2 := fun k i a => (h2 k i a).trans (h k i a)
theorem zfw.cA {w j : Nat} {M M' : zM} (h : zfw w M M') : zcA M' j = zcA M j := zcA_eq (fun k h1 h2 => h k j (by omega))
theorem zfw.fr {w j : Nat} {M M' : zM} (h : zfw w M M') : zfr j w M M' := fun k i _ b _ => h k i b
def zwv (M : zM) (w : Nat) (C : zA) (L : List (Nat × Nat)) : Prop := M 15 w 4 = nI L.length ∧ L.length ≤ 30 ∧ ∀ (i : Nat) (q : Nat × Nat), L[i]? = some q → M 16 w i = nI q.1 ∧ M 17 w i = nI q.2 ∧ M 18 w i = nI (zpl C q.1 q.2) ∧ M 19 w i = zb (zst C q.1 q.2)
theorem zwv.keep {M M' : zM} {w : Nat} {C : zA} {L : List (Nat × Nat)} (h : zwv M w C L) (hk : ∀ k, 15 ≤ k → k ≤ 19 → M' k w = M k w) : zwv M' w C L := by
  obtain ⟨h1, h2, h3⟩ := h
  refine ⟨by rw [hk 15 (by omega) (by omega)]; exact h1, h2, fun i q hq => ?_⟩
  rw [hk 16 (by omega) (by omega), hk 17 (by omega) (by omega), hk 18 (by omega) (by omega), hk 19 (by omega) (by omega)]
  exact h3 i q hq
theorem znar (b : Bool) : vp_nar .boolean (zb b) = zb b := by cases b <;> rfl
theorem e5_note {M : zM} {w a b : Nat} {C : zA} {L : List (Nat × Nat)} (h : zwv M w C L) (hl : L.length < 30) : ∃ M', fX5_note M w (nI a) (nI b) (nI (zpl C a b)) (zb (zst C a b)) = some ((), M') ∧ zwv M' w C (L ++ [(a, b)]) ∧ zfw w M M' := by
  obtain ⟨h1, h2, h3⟩ := h
  have hx := zix_nI hl (show 30 < 2 ^ 31 by omega)
  have hn := zN_nI (show L.length < 2 ^ 31 by omega)
  have c1 : ¬ nI L.length < 0 := nI_pos (by omega)
  have c2 : nI L.length < 30 := nI_lt (b := 30) hl (by omega)
  have r17 : ∀ v, (zw M 16 w L.length v) 15 w 4 = nI L.length := fun v => by rw [zw_ne (by omega)]; exact h1
  have r18 : ∀ v v', (zw (zw M 16 w L.length v) 17 w L.length v') 15 w 4 = nI L.length := fun v v' => by rw [zw_ne (by omega)]; exact r17 v
  have r19 : ∀ v v' v2, (zw (zw (zw M 16 w L.length v) 17 w L.length v') 18 w L.length v2) 15 w 4 = nI L.length := fun v v' v2 => by rw [zw_ne (by omega)]; exact r18 v v'
  have r20 : ∀ v v' v2 v3, (zw (zw (zw (zw M 16 w L.length v) 17 w L.length v') 18 w L.length v2) 19 w L.length v3) 15 w 4 = nI L.length := fun v v' v2 v3 => by rw [zw_ne (by omega)]; exact r19 v v' v2
  unfold fX5_note
  simp only [h1, if_neg c1, if_pos c2, zI_eq hx, hn, zL_eq, r17, r18, r19, r20, znar, nI_1]
  refine ⟨_, rfl, ⟨?_, by simp; omega, fun i q hq => ?_⟩, fun k i hk => ?_⟩
  · rw [zw_at]; unfold upd; rw [if_pos rfl]; simp
  · have e16 : (zw (zw (zw (zw (zw M 16 w L.length (nI a)) 17 w L.length (nI b)) 18 w L.length (nI (zpl C a b))) 19 w L.length (zb (zst C a b))) 15 w 4 (nI (L.length + 1))) 16 w = upd (M 16 w) L.length (nI a) := by
      rw [zw_ne (by omega), zw_ne (by omega), zw_ne (by omega), zw_ne (by omega), zw_at]
    have e17 : (zw (zw (zw (zw (zw M 16 w L.length (nI a)) 17 w L.length (nI b)) 18 w L.length (nI (zpl C a b))) 19 w L.length (zb (zst C a b))) 15 w 4 (nI (L.length + 1))) 17 w = upd (M 17 w) L.length (nI b) := by
      rw [zw_ne (by omega), zw_ne (by omega), zw_ne (by omega), zw_at, zw_ne (by omega)]
    have e18 : (zw (zw (zw (zw (zw M 16 w L.length (nI a)) 17 w L.length (nI b)) 18 w L.length (nI (zpl C a b))) 19 w L.length (zb (zst C a b))) 15 w 4 (nI (L.length + 1))) 18 w = upd (M 18 w) L.length (nI (zpl C a b)) := by
      rw [zw_ne (by omega), zw_ne (by omega), zw_at, zw_ne (by omega), zw_ne (by omega)]
    have e19 : (zw (zw (zw (zw (zw M 16 w L.length (nI a)) 17 w L.length (nI b)) 18 w L.length (nI (zpl C a b))) 19 w L.length (zb (zst C a b))) 15 w 4 (nI (L.length + 1))) 19 w = upd (M 19 w) L.length (zb (zst C a b)) := by
      rw [zw_ne (by omega), zw_at, zw_ne (by omega), zw_ne (by omega), zw_ne (by omega)]
    rw [e16, e17, e18, e19]
    unfold upd
    rcases Nat.lt_or_ge i L.length with hi | hi
    · rw [List.getElem?_append_left hi] at hq
      rw [if_neg (by omega), if_neg (by omega), if_neg (by omega), if_neg (by omega)]
      exact h3 i q hq
    · rw [List.getElem?_append_right hi] at hq
      have h0 : i - L.length < 1 := (List.getElem?_eq_some_iff.mp hq).1
      have hi' : i = L.length := by omega
      subst hi'
      rw [Nat.sub_self] at hq
      cases hq
      simp
  · rw [zw_ne (by omega), zw_ne (by omega), zw_ne (by omega), zw_ne (by omega), zw_ne (by omega)]
/-- one pair -/
def zin (C : zA) (i : Nat) : Nat → List (Nat × Nat) → List (Nat × Nat) := fun o L => if zcr C i o then L ++ [(i, o), (o, i)] else L
def zou (C : zA) : Nat → List (Nat × Nat) → List (Nat × Nat) := fun i L => if zfly C i then zf (zin C i) (5 - i) (i + 1) L else L
def znt (C : zA) : List (Nat × Nat) := zf (zou C) 6 0 []
theorem zin_len {C : zA} {i o : Nat} {L : List (Nat × Nat)} : (zin C i o L).length ≤ L.length + 2 := by
  unfold zin; split
  · simp
  · omega
theorem zin_lens {C : zA} {i : Nat} : ∀ (c o : Nat) (L : List (Nat × Nat)), (zf (zin C i) c o L).length ≤ L.length + 2 * c := by
  intro c
  induction c with
  | zero => intro o L; exact Nat.le_refl _
  | succ c ih => intro o L; have h1 := ih (o + 1) (zin C i o L); have h2 := zin_len (C := C) (i := i) (o := o) (L := L); show (zf (zin C i) c (o + 1) (zin C i o L)).length ≤ _; omega
theorem e5_step {M : zM} {w j i o : Nat} {L : List (Nat × Nat)} (h : zok (zcA M j)) (hio : i < o) (ho : o < 6) (hi : zfly (zcA M j) i = true) (hW : zwv M w (zcA M j) L) (hl : L.length + 2 ≤ 30) {ρ : Type} {f : Unit → zM → Option ρ} {g : zM → Option ρ} (hfg : ∀ M, f () M = g M) : ∃ M', (zC (fX2_isFlying M j (nI o)) fun r M1 => if r = 0 then g M1 else zC (fX5_measurePair M1 w j (nI i) (nI o)) f) = g M' ∧ zwv M' w (zcA M j) (zin (zcA M j) i o L) ∧ zfw w M M' := by
  rw [e2_fly h ho, zC_some]
  simp only [zb_0]
  cases hfo : zfly (zcA M j) o
  · refine ⟨M, by simp, ?_, zfw.refl⟩
    have : zcr (zcA M j) i o = false := by unfold zcr; rw [hfo]; simp
    unfold zin; rw [this]; exact hW
  · simp only [Bool.true_eq_false, if_false]
    rw [e5_pair h hio hi hfo]
    unfold zin
    cases hc : zcr (zcA M j) i o
    · refine ⟨M, by simp [zC_some, hfg], by simpa using hW, zfw.refl⟩
    · obtain ⟨M1, a1, a2, a3⟩ := e5_note (a := i) (b := o) hW (by omega)
      obtain ⟨M2, b1, b2, b3⟩ := e5_note (a := o) (b := i) a2 (by simp; omega)
      rw [zst_sym] at b1
      refine ⟨M2, ?_, ?_, a3.trans b3⟩
      · simp only [if_true, a1, zC_some, b1, hfg]
      · simpa using b2
theorem l5_in {M : zM} {w j i : Nat} (hi6 : i < 6) {k : zM → Int32 → Option (Unit × zM)} : ∀ (c o n : Nat) (M : zM) (L : List (Nat × Nat)), o + c = 6 → c < n → i < o → zok (zcA M j) → zfly (zcA M j) i = true → zwv M w (zcA M j) L → L.length + 2 * c ≤ 30 →
    ∃ M', fX5_measure_L25 k w j (nI i) n M (nI o) = k M' (nI 6) ∧ zwv M' w (zcA M j) (zf (zin (zcA M j) i) c o L) ∧ zfw w M M' := by
  intro c
  induction c with
  | zero =>
    intro o n M L ho hn _ _ _ hW _
    obtain ⟨n, rfl⟩ : ∃ q, n = q + 1 := ⟨n - 1, by omega⟩
    obtain rfl : o = 6 := by omega
    exact ⟨M, rfl, hW, zfw.refl⟩
  | succ c ih =>
    intro o n M L ho hn hio hok hf hW hl
    obtain ⟨n, rfl⟩ : ∃ q, n = q + 1 := ⟨n - 1, by omega⟩
    unfold fX5_measure_L25
    have hc : ¬ (6 : Int32) ≤ nI o := nI_ge (a := o) (b := 6) (by omega) (by omega)
    simp only [if_neg hc, zL_eq, nI_1]
    obtain ⟨M1, e1, w1, f1⟩ := e5_step (w := w) hok hio (by omega) hf hW (by omega) (f := fun _ M => fX5_measure_L25 k w j (nI i) n M (nI (o + 1))) (g := fun M => fX5_measure_L25 k w j (nI i) n M (nI (o + 1))) (fun _ => rfl)
    rw [e1]
    have hl2 := zin_len (C := zcA M j) (i := i) (o := o) (L := L)
    rw [← f1.cA (j := j)] at w1 hok hf hl2
    obtain ⟨M2, e2, w2, f2⟩ := ih (o + 1) n M1 _ (by omega) (by omega) (by omega) hok hf w1 (by omega)
    refine ⟨M2, e2, ?_, f1.trans f2⟩
    rw [f1.cA] at w2
    exact w2
def ztr : Nat → Nat
  | 0 => 0
  | c + 1 => ztr c + 2 * c
theorem l5_out {w j : Nat} {k : zM → Int32 → Option (Unit × zM)} : ∀ (c i n : Nat) (M : zM) (L : List (Nat × Nat)), i + c = 6 → c < n → zok (zcA M j) → zwv M w (zcA M j) L → L.length + ztr c ≤ 30 →
    ∃ M', fX5_measure_L7 k w j n M (nI i) = k M' (nI 6) ∧ zwv M' w (zcA M j) (zf (zou (zcA M j)) c i L) ∧ zfw w M M' := by
  intro c
  induction c with
  | zero =>
    intro i n M L hi hn _ hW _
    obtain ⟨n, rfl⟩ : ∃ q, n = q + 1 := ⟨n - 1, by omega⟩
    obtain rfl : i = 6 := by omega
    exact ⟨M, rfl, hW, zfw.refl⟩
  | succ c ih =>
    intro i n M L hi hn hok hW hl
    obtain ⟨n, rfl⟩ : ∃ q, n = q + 1 := ⟨n - 1, by omega⟩
    unfold fX5_measure_L7
    have hc : ¬ (6 : Int32) ≤ nI i := nI_ge (a := i) (b := 6) (by omega) (by omega)
    simp only [if_neg hc, zL_eq, nI_1]
    rw [e2_fly hok (by omega), zC_some]
    simp only [zb_0]
    have hl' : ztr (c + 1) = ztr c + 2 * c := rfl
    cases hf : zfly (zcA M j) i
    · simp only [if_true]
      obtain ⟨M2, e2, w2, f2⟩ := ih (i + 1) n M L (by omega) (by omega) hok hW (by omega)
      refine ⟨M2, e2, ?_, f2⟩
      show zwv M2 w (zcA M j) (zf (zou (zcA M j)) c (i + 1) (zou (zcA M j) i L))
      rw [show zou (zcA M j) i L = L by unfold zou; rw [hf]; simp]
      exact w2
    · simp only [Bool.true_eq_false, if_false]
      obtain ⟨M1, e1, w1, f1⟩ := l5_in (M := M) (w := w) (j := j) (i := i) (by omega) (k := fun M31 v32 => fX5_measure_L7 k w j n M31 (nI (i + 1))) c (i + 1) 2000 M L (by omega) (by omega) (by omega) hok hf hW (by omega)
      rw [e1]
      have hl2 := zin_lens (C := zcA M j) (i := i) c (i + 1) L
      rw [← f1.cA (j := j)] at w1 hok hl2
      obtain ⟨M2, e2, w2, f2⟩ := ih (i + 1) n M1 _ (by omega) (by omega) hok w1 (by omega)
      refine ⟨M2, e2, ?_, f1.trans f2⟩
      rw [f1.cA] at w2
      show zwv M2 w (zcA M j) (zf (zou (zcA M j)) c (i + 1) (zou (zcA M j) i L))
      rw [show zou (zcA M j) i L = zf (zin (zcA M j) i) c (i + 1) L by unfold zou; rw [hf, show 5 - i = c by omega]; simp]
      exact w2
theorem e5_measure {M : zM} {w j : Nat} (h : zok (zcA M j)) : ∃ M', fX5_measure M w j = some ((), M') ∧ zwv M' w (zcA M j) (znt (zcA M j)) ∧ zfw w M M' := by
  unfold fX5_measure
  rw [zL_eq]
  have e0 : zcA (zw M 15 w 4 0) j = zcA M j := zcA_skip (by omega)
  have f0 : zfw w M (zw M 15 w 4 0) := fun k i hk => zw_ne (by omega)
  obtain ⟨M1, e1, w1, f1⟩ := l5_out (w := w) (j := j) (k := fun M34 v35 => some ((), M34)) 6 0 2000 (zw M 15 w 4 0) [] (by omega) (by omega) (by rw [e0]; exact h) ⟨by rw [zw_at]; rfl, by simp, fun i q hq => by simp at hq⟩ (by decide)
  rw [e0] at w1
  exact ⟨M1, e1, w1, f0.trans f1⟩
