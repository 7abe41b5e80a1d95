def zsl (C : zA) (k o : Nat) : Int32 := (1 + zabs (C k 3 - C o 3)) + zabs (C k 4 - C o 4)
def zrb (C : zA) (k o : Nat) : Int32 := if zst C k o then 2 * (C o 5 * zsl C k o) else C o 5 * zsl C k o
def zad (C : zA) (A : zA) (q : Nat × Nat) : zA := zp A q.1 (12 + zpl C q.1 q.2) (A q.1 (12 + zpl C q.1 q.2) + zrb C q.1 q.2)
def zht (C A : zA) (k o : Nat) : Bool := decide ((A k 6).toInt ≤ (A k (12 + zpl C k o)).toInt)
def zbit (k : Nat) : Int32 := 1 <<< (nI k &&& 31)
def zbq (m : Int32) (k : Nat) : Bool := decide (((m >>> (nI k &&& 31)) &&& 1) = 1)
def zfr (j w : Nat) (M M' : zM) : Prop := ∀ k i, ¬ (1 ≤ k ∧ k ≤ 14 ∧ i = j) → ¬ (15 ≤ k ∧ k ≤ 19 ∧ i = w) → k ≠ 20 → M' k i = M k i
theorem zfr.refl {j w : Nat} {M : zM} : zfr j w M M := fun _ _ _ _ _ => rfl
theorem zfr.trans {j w : Nat} {M M1 M2 : zM} (h : zfr j w M M1) (h2 : zfr j w M1 M2) : zfr j w M M2 := fun k i a b c => (h2 k i a b c).trans (h k i a b c)
def zfw (w : Nat) (M M' : zM) : Prop := ∀ k i, ¬ (15 ≤ k ∧ k ≤ 19 ∧ i = w) → M' k i = M k i
theorem zfw.refl {w : Nat} {M : zM} : zfw w M M := fun _ _ _ => rfl
theorem zfw.trans {w : Nat} {M M1 M2 : zM} (h : zfw w M M1) (h2 : zfw w M1 M2) : zfw w M M2 := fun k i a => (h2 k i a).trans (h k i a)
theorem zfw.cA {w j : Nat} {M M' : zM} (h : zfw w M M') : zcA M' j = zcA M j := zcA_eq (fun k h1 h2 => h k j (by omega))
theorem zfw.fr {w j : Nat} {M M' : zM} (h : zfw w M M') : zfr j w M M' := fun k i _ b _ => h k i b
def zwv (M : zM) (w : Nat) (C : zA) (L : List (Nat × Nat)) : Prop := M 15 w 4 = nI L.length ∧ L.length ≤ 30 ∧ ∀ (i : Nat) (q : Nat × Nat), L[i]? = some q → M 16 w i = nI q.1 ∧ M 17 w i = nI q.2 ∧ M 18 w i = nI (zpl C q.1 q.2) ∧ M 19 w i = zb (zst C q.1 q.2)
theorem zwv.keep {M M' : zM} {w : Nat} {C : zA} {L : List (Nat × Nat)} (h : zwv M w C L) (hk : ∀ k, 15 ≤ k → k ≤ 19 → M' k w = M k w) : zwv M' w C L := by
  obtain ⟨h1, h2, h3⟩ := h
  refine ⟨by rw [hk 15 (by omega) (by omega)]; exact h1, h2, fun i q hq => ?_⟩
  rw [hk 16 (by omega) (by omega), hk 17 (by omega) (by omega), hk 18 (by omega) (by omega), hk 19 (by omega) (by omega)]
  exact h3 i q hq
theorem znar (b : Bool) : vp_nar .boolean (zb b) = zb b := by cases b <;> rfl
theorem e5_note {M : zM} {w a b : Nat} {C : zA} {L : List (Nat × Nat)} (h : zwv M w C L) (hl : L.length < 30) : ∃ M', fX5_note M w (nI a) (nI b) (nI (zpl C a b)) (zb (zst C a b)) = some ((), M') ∧ zwv M' w C (L ++ [(a, b)]) ∧ zfw w M M' := by
  obtain ⟨h1, h2, h3⟩ := h
  have hx := zix_nI hl (show 30 < 2 ^ 31 by omega)
  have hn := zN_nI (show L.length < 2 ^ 31 by omega)
  have c1 : ¬ nI L.length < 0 := nI_pos (by omega)
  have c2 : nI L.length < 30 := nI_lt (b := 30) hl (by omega)
  have r17 : ∀ v, (zw M 16 w L.length v) 15 w 4 = nI L.length := fun v => by rw [zw_ne (by omega)]; exact h1
  have r18 : ∀ v v', (zw (zw M 16 w L.length v) 17 w L.length v') 15 w 4 = nI L.length := fun v v' => by rw [zw_ne (by omega)]; exact r17 v
  have r19 : ∀ v v' v2, (zw (zw (zw M 16 w L.length v) 17 w L.length v') 18 w L.length v2) 15 w 4 = nI L.length := fun v v' v2 => by rw [zw_ne (by omega)]; exact r18 v v'
  have r20 : ∀ v v' v2 v3, (zw (zw (zw (zw M 16 w L.length v) 17 w L.length v') 18 w L.length v2) 19 w L.length v3) 15 w 4 = nI L.length := fun v v' v2 v3 => by rw [zw_ne (by omega)]; exact r19 v v' v2
  unfold fX5_note
  simp only [h1, if_neg c1, if_pos c2, zI_eq hx, hn, zL_eq, r17, r18, r19, r20, znar, nI_1]
  refine ⟨_, rfl, ⟨?_, by simp; omega, fun i q hq => ?_⟩, fun k i hk => ?_⟩
  · rw [zw_at]; unfold upd; rw [if_pos rfl]; simp
  · have e16 : (zw (zw (zw (zw (zw M 16 w L.length (nI a)) 17 w L.length (nI b)) 18 w L.length (nI (zpl C a b))) 19 w L.length (zb (zst C a b))) 15 w 4 (nI (L.length + 1))) 16 w = upd (M 16 w) L.length (nI a) := by
      rw [zw_ne (by omega), zw_ne (by omega), zw_ne (by omega), zw_ne (by omega), zw_at]
    have e17 : (zw (zw (zw (zw (zw M 16 w L.length (nI a)) 17 w L.length (nI b)) 18 w L.length (nI (zpl C a b))) 19 w L.length (zb (zst C a b))) 15 w 4 (nI (L.length + 1))) 17 w = upd (M 17 w) L.length (nI b) := by
      rw [zw_ne (by omega), zw_ne (by omega), zw_ne (by omega), zw_at, zw_ne (by omega)]
    have e18 : (zw (zw (zw (zw (zw M 16 w L.length (nI a)) 17 w L.length (nI b)) 18 w L.length (nI (zpl C a b))) 19 w L.length (zb (zst C a b))) 15 w 4 (nI (L.length + 1))) 18 w = upd (M 18 w) L.length (nI (zpl C a b)) := by
      rw [zw_ne (by omega), zw_ne (by omega), zw_at, zw_ne (by omega), zw_ne (by omega)]
    have e19 : (zw (zw (zw (zw (zw M 16 w L.length (nI a)) 17 w L.length (nI b)) 18 w L.length (nI (zpl C a b))) 19 w L.length (zb (zst C a b))) 15 w 4 (nI (L.length + 1))) 19 w = upd (M 19 w) L.length (zb (zst C a b)) := by
      rw [zw_ne (by omega), zw_at, zw_ne (by omega), zw_ne (by omega), zw_ne (by omega)]
    rw [e16, e17, e18, e19]
    unfold upd
    rcases Nat.lt_or_ge i L.length with hi | hi
    · rw [List.getElem?_append_left hi] at hq
      rw [if_neg (by omega), if_neg (by omega), if_neg (by omega), if_neg (by omega)]
      exact h3 i q hq
    · rw [List.getElem?_append_right hi] at hq
      have h0 : i - L.length < 1 := (List.getElem?_eq_some_iff.mp hq).1
      have hi' : i = L.length := by omega
      subst hi'
      rw [Nat.sub_self] at hq
      cases hq
      simp
  · rw [zw_ne (by omega), zw_ne (by omega), zw_ne (by omega), zw_ne (by omega), zw_ne (by omega)]
def zin (C : zA) (i : Nat) : Nat → List (Nat × Nat) → List (Nat × Nat) := fun o L => if zcr C i o then L ++ [(i, o), (o, i)] else L
def zou (C : zA) : Nat → List (Nat × Nat) → List (Nat × Nat) := fun i L => if zfly C i then zf (zin C i) (5 - i) (i + 1) L else L
def znt (C : zA) : List (Nat × Nat) := zf (zou C) 6 0 []
theorem zin_len {C : zA} {i o : Nat} {L : List (Nat × Nat)} : (zin C i o L).length ≤ L.length + 2 := by
  unfold zin; split
  · simp
  · omega
theorem zin_lens {C : zA} {i : Nat} : ∀ (c o : Nat) (L : List (Nat × Nat)), (zf (zin C i) c o L).length ≤ L.length + 2 * c := by
  intro c
  induction c with
  | zero => intro o L; exact Nat.le_refl _
  | succ c ih => intro o L; have h1 := ih (o + 1) (zin C i o L); have h2 := zin_len (C := C) (i := i) (o := o) (L := L); show (zf (zin C i) c (o + 1) (zin C i o L)).length ≤ _; omega
theorem e5_step {M : zM} {w j i o : Nat} {L : List (Nat × Nat)} (h : zok (zcA M j)) (hio : i < o) (ho : o < 6) (hi : zfly (zcA M j) i = true) (hW : zwv M w (zcA M j) L) (hl : L.length + 2 ≤ 30) {ρ : Type} {f : Unit → zM → Option ρ} {g : zM → Option ρ} (hfg : ∀ M, f () M = g M) : ∃ M', (zC (fX2_isFlying M j (nI o)) fun r M1 => if r = 0 then g M1 else zC (fX5_measurePair M1 w j (nI i) (nI o)) f) = g M' ∧ zwv M' w (zcA M j) (zin (zcA M j) i o L) ∧ zfw w M M' := by
  rw [e2_fly h ho, zC_some]
  simp only [zb_0]
  cases hfo : zfly (zcA M j) o
  · refine ⟨M, by simp, ?_, zfw.refl⟩
    have : zcr (zcA M j) i o = false := by unfold zcr; rw [hfo]; simp
    unfold zin; rw [this]; exact hW
  · simp only [Bool.true_eq_false, if_false]
    rw [e5_pair h hio hi hfo]
    unfold zin
    cases hc : zcr (zcA M j) i o
    · refine ⟨M, by simp [zC_some, hfg], by simpa using hW, zfw.refl⟩
    · obtain ⟨M1, a1, a2, a3⟩ := e5_note (a := i) (b := o) hW (by omega)
      obtain ⟨M2, b1, b2, b3⟩ := e5_note (a := o) (b := i) a2 (by simp; omega)
      rw [zst_sym] at b1
      refine ⟨M2, ?_, ?_, a3.trans b3⟩
      · simp only [if_true, a1, zC_some, b1, hfg]
      · simpa using b2
theorem l5_in {M : zM} {w j i : Nat} (hi6 : i < 6) {k : zM → Int32 → Option (Unit × zM)} : ∀ (c o n : Nat) (M : zM) (L : List (Nat × Nat)), o + c = 6 → c < n → i < o → zok (zcA M j) → zfly (zcA M j) i = true → zwv M w (zcA M j) L → L.length + 2 * c ≤ 30 →
    ∃ M', fX5_measure_L25 k w j (nI i) n M (nI o) = k M' (nI 6) ∧ zwv M' w (zcA M j) (zf (zin (zcA M j) i) c o L) ∧ zfw w M M' := by
  intro c
  induction c with
  | zero =>
    intro o n M L ho hn _ _ _ hW _
    obtain ⟨n, rfl⟩ : ∃ q, n = q + 1 := ⟨n - 1, by omega⟩
    obtain rfl : o = 6 := by omega
    exact ⟨M, rfl, hW, zfw.refl⟩
  | succ c ih =>
    intro o n M L ho hn hio hok hf hW hl
    obtain ⟨n, rfl⟩ : ∃ q, n = q + 1 := ⟨n - 1, by omega⟩
    unfold fX5_measure_L25
    have hc : ¬ (6 : Int32) ≤ nI o := nI_ge (a := o) (b := 6) (by omega) (by omega)
    simp only [if_neg hc, zL_eq, nI_1]
    obtain ⟨M1, e1, w1, f1⟩ := e5_step (w := w) hok hio (by omega) hf hW (by omega) (f := fun _ M => fX5_measure_L25 k w j (nI i) n M (nI (o + 1))) (g := fun M => fX5_measure_L25 k w j (nI i) n M (nI (o + 1))) (fun _ => rfl)
    rw [e1]
    have hl2 := zin_len (C := zcA M j) (i := i) (o := o) (L := L)
    rw [← f1.cA (j := j)] at w1 hok hf hl2
    obtain ⟨M2, e2, w2, f2⟩ := ih (o + 1) n M1 _ (by omega) (by omega) (by omega) hok hf w1 (by omega)
    refine ⟨M2, e2, ?_, f1.trans f2⟩
    rw [f1.cA] at w2
    exact w2
def ztr : Nat → Nat
  | 0 => 0
  | c + 1 => ztr c + 2 * c
theorem l5_out {w j : Nat} {k : zM → Int32 → Option (Unit × zM)} : ∀ (c i n : Nat) (M : zM) (L : List (Nat × Nat)), i + c = 6 → c < n → zok (zcA M j) → zwv M w (zcA M j) L → L.length + ztr c ≤ 30 →
    ∃ M', fX5_measure_L7 k w j n M (nI i) = k M' (nI 6) ∧ zwv M' w (zcA M j) (zf (zou (zcA M j)) c i L) ∧ zfw w M M' := by
  intro c
  induction c with
  | zero =>
    intro i n M L hi hn _ hW _
    obtain ⟨n, rfl⟩ : ∃ q, n = q + 1 := ⟨n - 1, by omega⟩
    obtain rfl : i = 6 := by omega
    exact ⟨M, rfl, hW, zfw.refl⟩
  | succ c ih =>
    intro i n M L hi hn hok hW hl
    obtain ⟨n, rfl⟩ : ∃ q, n = q + 1 := ⟨n - 1, by omega⟩
    unfold fX5_measure_L7
    have hc : ¬ (6 : Int32) ≤ nI i := nI_ge (a := i) (b := 6) (by omega) (by omega)
    simp only [if_neg hc, zL_eq, nI_1]
    rw [e2_fly hok (by omega), zC_some]
    simp only [zb_0]
    have hl' : ztr (c + 1) = ztr c + 2 * c := rfl
    cases hf : zfly (zcA M j) i
    · simp only [if_true]
      obtain ⟨M2, e2, w2, f2⟩ := ih (i + 1) n M L (by omega) (by omega) hok hW (by omega)
      refine ⟨M2, e2, ?_, f2⟩
      show zwv M2 w (zcA M j) (zf (zou (zcA M j)) c (i + 1) (zou (zcA M j) i L))
      rw [show zou (zcA M j) i L = L by unfold zou; rw [hf]; simp]
      exact w2
    · simp only [Bool.true_eq_false, if_false]
      obtain ⟨M1, e1, w1, f1⟩ := l5_in (M := M) (w := w) (j := j) (i := i) (by omega) (k := fun M31 v32 => fX5_measure_L7 k w j n M31 (nI (i + 1))) c (i + 1) 2000 M L (by omega) (by omega) (by omega) hok hf hW (by omega)
      rw [e1]
      have hl2 := zin_lens (C := zcA M j) (i := i) c (i + 1) L
      rw [← f1.cA (j := j)] at w1 hok hl2
      obtain ⟨M2, e2, w2, f2⟩ := ih (i + 1) n M1 _ (by omega) (by omega) hok w1 (by omega)
      refine ⟨M2, e2, ?_, f1.trans f2⟩
      rw [f1.cA] at w2
      show zwv M2 w (zcA M j) (zf (zou (zcA M j)) c (i + 1) (zou (zcA M j) i L))
      rw [show zou (zcA M j) i L = zf (zin (zcA M j) i) c (i + 1) L by unfold zou; rw [hf, show 5 - i = c by omega]; simp]
      exact w2
theorem e5_measure {M : zM} {w j : Nat} (h : zok (zcA M j)) : ∃ M', fX5_measure M w j = some ((), M') ∧ zwv M' w (zcA M j) (znt (zcA M j)) ∧ zfw w M M' := by
  unfold fX5_measure
  rw [zL_eq]
  have e0 : zcA (zw M 15 w 4 0) j = zcA M j := zcA_skip (by omega)
  have f0 : zfw w M (zw M 15 w 4 0) := fun k i hk => zw_ne (by omega)
  obtain ⟨M1, e1, w1, f1⟩ := l5_out (w := w) (j := j) (k := fun M34 v35 => some ((), M34)) 6 0 2000 (zw M 15 w 4 0) [] (by omega) (by omega) (by rw [e0]; exact h) ⟨by rw [zw_at]; rfl, by simp, fun i q hq => by simp at hq⟩ (by decide)
  rw [e0] at w1
  exact ⟨M1, e1, w1, f0.trans f1⟩

def zfk (j : Nat) (M M' : zM) : Prop := ∀ k i, ¬ (1 ≤ k ∧ k ≤ 14 ∧ i = j) → M' k i = M k i
theorem zfk.refl {j : Nat} {M : zM} : zfk j M M := fun _ _ _ => rfl
theorem zfk.trans {j : Nat} {M M1 M2 : zM} (h : zfk j M M1) (h2 : zfk j M1 M2) : zfk j M M2 := fun k i a => (h2 k i a).trans (h k i a)
theorem zfk.fr {w j : Nat} {M M' : zM} (h : zfk j M M') : zfr j w M M' := fun k i a _ _ => h k i a
theorem zfk.wv {j w : Nat} {M M' : zM} {C : zA} {L : List (Nat × Nat)} (h : zfk j M M') (hw : zwv M w C L) : zwv M' w C L := hw.keep (fun k h1 h2 => h k w (by omega))
def zsw (C A : zA) : Prop := ∀ k p, (p < 12 ∨ 6 ≤ k) → A k p = C k p
theorem zsw.rb {C A : zA} (h : zsw C A) (k o : Nat) : zrb C k o = if zst C k o then 2 * (A o 5 * zsl A k o) else A o 5 * zsl A k o := by
  unfold zrb zsl
  rw [h k 3 (by omega), h o 3 (by omega), h k 4 (by omega), h o 4 (by omega), h o 5 (by omega)]
theorem zsw.ad {C A : zA} {q : Nat × Nat} (h : zsw C A) (hq : q.1 < 6) : zsw C (zad C A q) := fun k p hp => by
  unfold zad; rw [zp_ne (by omega)]; exact h k p hp
theorem e2_sliding {M : zM} {j k o : Nat} (hk : k < 6) (ho : o < 6) : fX2_sliding M j (nI k) (nI o) = some (zsl (zcA M j) k o, M) := by
  unfold fX2_sliding zsl
  simp only [zI_eq (zix_nI hk (show 6 < 2 ^ 31 by omega)), zI_eq (zix_nI ho (show 6 < 2 ^ 31 by omega)), zN_nI (show k < 2 ^ 31 by omega), zN_nI (show o < 2 ^ 31 by omega), zr3 hk, zr3 ho, zr4 hk, zr4 ho]
def zhk (A : zA) (k : Nat) : Prop := A 6 0 = nI (zKn A) ∧ zKn A ≤ 6 ∧ k < zKn A
theorem zhk.lt {A : zA} {k : Nat} (h : zhk A k) : k < 6 := by have := h.2.1; have := h.2.2; omega
theorem zok.hk {A : zA} {k : Nat} (h : zok A) (hk : k < zKn A) : zhk A k := ⟨h.1, h.2.1, hk⟩
theorem zhk.of {A B : zA} {k : Nat} (h : zhk A k) (e : B 6 0 = A 6 0) : zhk B k := by
  have e2 : zKn B = zKn A := by unfold zKn; rw [e]
  exact ⟨by rw [e, e2]; exact h.1, by rw [e2]; exact h.2.1, by rw [e2]; exact h.2.2⟩
theorem e2_hask {M : zM} {j k : Nat} (h : zhk (zcA M j) k) : fX2_has M j (nI k) = some (1, M) := by
  obtain ⟨h1, hK, h2⟩ := h
  have h0 : M 1 j 0 = nI (zKn (zcA M j)) := h1
  unfold fX2_has
  rw [h0]
  generalize zKn (zcA M j) = K at *
  rw [if_neg (nI_pos (by omega)), if_neg (nI_ge (by omega) (by omega)), if_neg (show ¬ (6 : Int32) ≤ nI k from nI_ge (a := k) (b := 6) (by omega) (by omega))]
theorem e2_rub {M : zM} {j k o : Nat} {b : Bool} (hk : zhk (zcA M j) k) (ho : zhk (zcA M j) o) : fX2_rubbing M j (nI k) (nI o) (zb b) = some (if b then 2 * (zcA M j o 5 * zsl (zcA M j) k o) else zcA M j o 5 * zsl (zcA M j) k o, M) := by
  unfold fX2_rubbing
  simp only [e2_hask hk, e2_hask ho, zC_some, eq_false (show ¬ (1 : Int32) = 0 by decide), if_false, zI_eq (zix_nI ho.lt (show 6 < 2 ^ 31 by omega)), e2_sliding hk.lt ho.lt, zL_eq, zN_nI (show o < 2 ^ 31 by have := ho.lt; omega), zr5 ho.lt, zb_0]
  cases b <;> simp
theorem z2ix {k p : Nat} : nI k * 32 + nI p = nI (32 * k + p) := by
  rw [show (32 : Int32) = nI 32 from rfl, pk_mul, nI_add, Nat.mul_comm]
theorem e2_place {M : zM} {j k p : Nat} (hk : zhk (zcA M j) k) (hp : p < 32) : fX2_hasPlace M j (nI k) (nI p) = some (1, M) := by
  have hw : zwin (nI p) (0 : Int32).toInt (31 : Int32).toInt = true := by
    unfold zwin
    rw [nI_toInt (by omega), show (0 : Int32).toInt = 0 from rfl, show (31 : Int32).toInt = 31 from rfl, decide_eq_true (by omega), decide_eq_true (by omega)]; rfl
  unfold fX2_hasPlace
  rw [e2_hask hk, zC_some, if_neg (by decide), e2_within, hw, zC_some, if_neg (by decide)]
theorem e2_wearAt {M : zM} {j k p : Nat} (hz : zhk (zcA M j) k) (hp : p < 32) : fX2_wearAt M j (nI k) (nI p) = some (zcA M j k (12 + p), M) := by
  have hk := hz.lt
  unfold fX2_wearAt
  rw [e2_place hz hp, zC_some, if_neg (by decide), z2ix, zI_eq (zix_nI (by omega) (by omega)), zN_nI (by omega), zrw (M := M) hk hp]
theorem e2_wearDown {M : zM} {j k p : Nat} {v : Int32} (hz : zhk (zcA M j) k) (hp : p < 32) : ∃ M', fX2_wearDown M j (nI k) (nI p) v = some ((), M') ∧ zcA M' j = zp (zcA M j) k (12 + p) (zcA M j k (12 + p) + v) ∧ zfk j M M' := by
  have hk := hz.lt
  unfold fX2_wearDown
  rw [e2_place hz hp, zC_some, if_neg (by decide), z2ix, zI_eq (zix_nI (by omega) (by omega)), zI_eq (zix_nI (by omega) (by omega)), zN_nI (by omega), zL_eq]
  refine ⟨_, rfl, ?_, fun k' i' h => zw_ne (by omega)⟩
  rw [zc_w hk hp, zrw (M := M) hk hp]
theorem e2_worn {M : zM} {j k p : Nat} (hz : zhk (zcA M j) k) (hp : p < 32) : fX2_isWornThrough M j (nI k) (nI p) = some (zb (decide ((zcA M j k 6).toInt ≤ (zcA M j k (12 + p)).toInt)), M) := by
  have hk := hz.lt
  unfold fX2_isWornThrough
  simp only [e2_hask hz, eq_false (show ¬ (1 : Int32) = 0 by decide), if_false, e2_wearAt hz hp, zC_some, zI_eq (zix_nI hk (show 6 < 2 ^ 31 by omega)), zN_nI (show k < 2 ^ 31 by omega), zr6 hk, zlt_i, zb]
  by_cases c : (zcA M j k (12 + p)).toInt < (zcA M j k 6).toInt
  · simp [c, show ¬ (zcA M j k 6).toInt ≤ (zcA M j k (12 + p)).toInt by omega]
  · simp [c, show (zcA M j k 6).toInt ≤ (zcA M j k (12 + p)).toInt by omega]
def zgd (C : zA) (L : List (Nat × Nat)) : Prop := ∀ q, q ∈ L → zhk C q.1 ∧ zhk C q.2 ∧ zpl C q.1 q.2 < 32
theorem l4_wear {j : Nat} {C : zA} {k : zM → Int32 → Option (Unit × zM)} : ∀ (L2 L1 : List (Nat × Nat)) (n : Nat) (M : zM), zwv M 1 C (L1 ++ L2) → zsw C (zcA M j) → zgd C (L1 ++ L2) → L2.length < n →
    ∃ M', fX4_wearStrings_L2 k j n M (nI L1.length) = k M' (nI (L1 ++ L2).length) ∧ zcA M' j = L2.foldl (zad C) (zcA M j) ∧ zfk j M M' := by
  intro L2
  induction L2 with
  | nil =>
    intro L1 n M hW hs hg hn
    obtain ⟨n, rfl⟩ : ∃ q, n = q + 1 := ⟨n - 1, by omega⟩
    obtain ⟨h1, h2, h3⟩ := hW
    unfold fX4_wearStrings_L2
    rw [List.append_nil] at h1 h2 ⊢
    have hc : M 15 1 4 ≤ nI L1.length := by rw [h1]; exact nI_le (Nat.le_refl _) (by omega)
    simp only [if_pos hc]
    exact ⟨M, rfl, rfl, zfk.refl⟩
  | cons q L2 ih =>
    intro L1 n M hW hs hg hn
    obtain ⟨n, rfl⟩ : ∃ q, n = q + 1 := ⟨n - 1, by omega⟩
    obtain ⟨h1, h2, h3⟩ := id hW
    have hlen : (L1 ++ q :: L2).length = L1.length + 1 + L2.length := by simp; omega
    unfold fX4_wearStrings_L2
    have hc : ¬ M 15 1 4 ≤ nI L1.length := by rw [h1]; exact nI_ge (by omega) (by omega)
    have hq : (L1 ++ q :: L2)[L1.length]? = some q := by simp
    obtain ⟨r1, r2, r3, r4⟩ := h3 _ _ hq
    obtain ⟨g1, g2, g3⟩ := hg q (by simp)
    have hc30 : ¬ (30 : Int32) ≤ nI L1.length := nI_ge (a := L1.length) (b := 30) (by omega) (by omega)
    simp only [if_neg hc, if_neg hc30, zI_eq (zix_nI (show L1.length < 30 by omega) (show 30 < 2 ^ 31 by omega)), zN_nI (show L1.length < 2 ^ 31 by omega), zL_eq, r1, r2, r3, r4, e2_rub (g1.of (hs 6 0 (by omega))) (g2.of (hs 6 0 (by omega))), zC_some, nI_1]
    obtain ⟨M1, e1, c1, f1⟩ := e2_wearDown (M := M) (j := j) (v := if zst C q.1 q.2 = true then 2 * (zcA M j q.2 5 * zsl (zcA M j) q.1 q.2) else zcA M j q.2 5 * zsl (zcA M j) q.1 q.2) (g1.of (hs 6 0 (by omega))) g3
    rw [e1, zC_some]
    have hA : zcA M1 j = zad C (zcA M j) q := by rw [c1]; unfold zad; rw [hs.rb q.1 q.2]
    obtain ⟨M2, e2, c2, f2⟩ := ih (L1 ++ [q]) n M1 (by rw [List.append_assoc]; exact f1.wv hW) (by rw [hA]; exact hs.ad g1.lt) (by rw [List.append_assoc]; exact hg) (by simp at hn; omega)
    rw [List.append_assoc] at e2
    refine ⟨M2, ?_, ?_, f1.trans f2⟩
    · rw [show (L1 ++ [q]).length = L1.length + 1 by simp] at e2; exact e2
    · rw [c2, hA]; rfl
def zpt (C : zA) (s : zA × Int32 × Int32) (q : Nat × Nat) : zA × Int32 × Int32 := if zht C s.1 q.1 q.2 then (zp s.1 q.2 7 (s.1 q.2 7 + 1), s.2.1 ||| zbit q.1, s.2.2 ||| zbit q.2) else s
def zft (j : Nat) (M M' : zM) : Prop := ∀ k i, ¬ (1 ≤ k ∧ k ≤ 14 ∧ i = j) → k ≠ 20 → M' k i = M k i
theorem zft.refl {j : Nat} {M : zM} : zft j M M := fun _ _ _ _ => rfl
theorem zft.trans {j : Nat} {M M1 M2 : zM} (h : zft j M M1) (h2 : zft j M1 M2) : zft j M M2 := fun k i a b => (h2 k i a b).trans (h k i a b)
theorem zft.fr {w j : Nat} {M M' : zM} (h : zft j M M') : zfr j w M M' := fun k i a _ c => h k i a c
theorem zft.wv {j w : Nat} {M M' : zM} {C : zA} {L : List (Nat × Nat)} (h : zft j M M') (hw : zwv M w C L) : zwv M' w C L := hw.keep (fun k h1 h2 => h k w (by omega) (by omega))
theorem l4_points {j : Nat} {C : zA} {k : zM → Int32 → Option (Unit × zM)} : ∀ (L2 L1 : List (Nat × Nat)) (n : Nat) (M : zM), zwv M 1 C (L1 ++ L2) → zgd C (L1 ++ L2) → zcA M j 6 0 = C 6 0 → L2.length < n →
    ∃ M', fX4_givePoints_L2 k j n M (nI L1.length) = k M' (nI (L1 ++ L2).length) ∧ (zcA M' j, M' 20 0 1, M' 20 0 2) = L2.foldl (zpt C) (zcA M j, M 20 0 1, M 20 0 2) ∧ zft j M M' := by
  intro L2
  induction L2 with
  | nil =>
    intro L1 n M hW hg hS hn
    obtain ⟨n, rfl⟩ : ∃ q, n = q + 1 := ⟨n - 1, by omega⟩
    obtain ⟨h1, h2, h3⟩ := hW
    unfold fX4_givePoints_L2
    rw [List.append_nil] at h1 h2 ⊢
    have hc : M 15 1 4 ≤ nI L1.length := by rw [h1]; exact nI_le (Nat.le_refl _) (by omega)
    simp only [if_pos hc]
    exact ⟨M, rfl, rfl, zft.refl⟩
  | cons q L2 ih =>
    intro L1 n M hW hg hS hn
    obtain ⟨n, rfl⟩ : ∃ q, n = q + 1 := ⟨n - 1, by omega⟩
    obtain ⟨h1, h2, h3⟩ := id hW
    have hlen : (L1 ++ q :: L2).length = L1.length + 1 + L2.length := by simp; omega
    unfold fX4_givePoints_L2
    have hc : ¬ M 15 1 4 ≤ nI L1.length := by rw [h1]; exact nI_ge (by omega) (by omega)
    have hq : (L1 ++ q :: L2)[L1.length]? = some q := by simp
    obtain ⟨r1, r2, r3, r4⟩ := h3 _ _ hq
    obtain ⟨g1, g2, g3⟩ := hg q (by simp)
    have hc30 : ¬ (30 : Int32) ≤ nI L1.length := nI_ge (a := L1.length) (b := 30) (by omega) (by omega)
    simp only [if_neg hc, if_neg hc30, zI_eq (zix_nI (show L1.length < 30 by omega) (show 30 < 2 ^ 31 by omega)), zN_nI (show L1.length < 2 ^ 31 by omega), zL_eq, r1, r2, r3, e2_worn (g1.of hS) g3, e2_hask (g2.of hS), zC_some, eq_false (show ¬ (1 : Int32) = 0 by decide), nI_1, zb_0]
    rw [List.foldl_cons]
    have hst : zht C (zcA M j) q.1 q.2 = decide ((zcA M j q.1 6).toInt ≤ (zcA M j q.1 (12 + zpl C q.1 q.2)).toInt) := rfl
    rw [← hst]
    cases hh : zht C (zcA M j) q.1 q.2
    · simp only [if_true]
      obtain ⟨M2, e2, c2, f2⟩ := ih (L1 ++ [q]) n M (by rw [List.append_assoc]; exact hW) (by rw [List.append_assoc]; exact hg) hS (by simp at hn; omega)
      rw [List.append_assoc] at e2
      refine ⟨M2, ?_, ?_, f2⟩
      · rw [show (L1 ++ [q]).length = L1.length + 1 by simp] at e2; exact e2
      · rw [c2]; unfold zpt; rw [hh]; simp
    · simp only [Bool.true_eq_false, if_false, zI_eq (zix_nI g2.lt (show 6 < 2 ^ 31 by omega)), zN_nI (show q.2 < 2 ^ 31 by have := g2.lt; omega)]
      generalize hM1 : zw (zw (zw M 9 j q.2 (M 9 j q.2 + 1)) 20 0 2 ((zw M 9 j q.2 (M 9 j q.2 + 1)) 20 0 2 ||| 1 <<< (nI q.2 &&& 31))) 20 0 1 ((zw (zw M 9 j q.2 (M 9 j q.2 + 1)) 20 0 2 ((zw M 9 j q.2 (M 9 j q.2 + 1)) 20 0 2 ||| 1 <<< (nI q.2 &&& 31))) 20 0 1 ||| 1 <<< (nI q.1 &&& 31)) = M1
      have f1 : zft j M M1 := by
        intro k i a b
        rw [← hM1, zw_ne (by omega), zw_ne (by omega), zw_ne (by omega)]
      have a1 : zcA M1 j = zp (zcA M j) q.2 7 (zcA M j q.2 7 + 1) := by
        rw [← hM1, zcA_skip (by omega), zcA_skip (by omega), zc7 g2.lt, zr7 (M := M) g2.lt]
      obtain ⟨M2, e2, c2, f2⟩ := ih (L1 ++ [q]) n M1 (by rw [List.append_assoc]; exact f1.wv hW) (by rw [List.append_assoc]; exact hg) (by rw [a1, zp_ne (by have := g2.lt; omega)]; exact hS) (by simp at hn; omega)
      rw [List.append_assoc] at e2
      refine ⟨M2, ?_, ?_, f1.trans f2⟩
      · rw [show (L1 ++ [q]).length = L1.length + 1 by simp] at e2; exact e2
      · rw [c2]
        congr 1
        unfold zpt
        rw [hh]
        have a2 : M1 20 0 1 = M 20 0 1 ||| zbit q.1 := by
          rw [← hM1, zw_at]; unfold upd; rw [if_pos rfl, zw_at]; unfold upd; rw [if_neg (by decide), zw_ne (by omega)]; rfl
        have a3 : M1 20 0 2 = M 20 0 2 ||| zbit q.2 := by
          rw [← hM1, zw_at]; unfold upd; rw [if_neg (by decide), zw_at]; unfold upd; rw [if_pos rfl, zw_ne (by omega)]; rfl
        rw [a1, a2, a3]; simp
def zcu (m : Int32) : Nat → zA → zA := fun k A => if zbq m k then zp (zp A k 8 1) 6 3 (A 6 3 + 1) else A
theorem l4_cut {j : Nat} {k : zM → Int32 → Option (Unit × zM)} : ∀ (c i n : Nat) (M : zM), i + c = 6 → c < n →
    ∃ M', fX4_cutStrings_L2 k j n M (nI i) = k M' (nI 6) ∧ zcA M' j = zf (zcu (M 20 0 1)) c i (zcA M j) ∧ zfk j M M' := by
  intro c
  induction c with
  | zero =>
    intro i n M hi hn
    obtain ⟨n, rfl⟩ : ∃ q, n = q + 1 := ⟨n - 1, by omega⟩
    obtain rfl : i = 6 := by omega
    exact ⟨M, rfl, rfl, zfk.refl⟩
  | succ c ih =>
    intro i n M hi hn
    obtain ⟨n, rfl⟩ : ∃ q, n = q + 1 := ⟨n - 1, by omega⟩
    have hi6 : i < 6 := by omega
    unfold fX4_cutStrings_L2
    have hc : ¬ (6 : Int32) ≤ nI i := nI_ge (a := i) (b := 6) (by omega) (by omega)
    simp only [if_neg hc, zL_eq, nI_1]
    show ∃ M', _ ∧ zcA M' j = zf (zcu (M 20 0 1)) c (i + 1) (zcu (M 20 0 1) i (zcA M j)) ∧ _
    by_cases hb : ((M 20 0 1 >>> (nI i &&& 31)) &&& 1) = 1
    · simp only [if_pos hb, zI_eq (zix_nI hi6 (show 6 < 2 ^ 31 by omega)), zN_nI (show i < 2 ^ 31 by omega)]
      generalize hM1 : zw (zw M 10 j i 1) 1 j 3 ((zw M 10 j i 1) 1 j 3 + 1) = M1
      have f1 : zfk j M M1 := fun k' i' h => by rw [← hM1, zw_ne (by omega), zw_ne (by omega)]
      have a0 : M1 20 0 1 = M 20 0 1 := by rw [f1 20 0 (by omega)]
      have a1 : zcA M1 j = zcu (M 20 0 1) i (zcA M j) := by
        rw [← hM1, zcs3, zc8 hi6, zw_ne (by omega)]
        unfold zcu zbq; rw [if_pos (by simpa using hb)]; rfl
      obtain ⟨M2, e2, c2, f2⟩ := ih (i + 1) n M1 (by omega) (by omega)
      exact ⟨M2, e2, by rw [c2, a0, a1], f1.trans f2⟩
    · simp only [if_neg hb]
      have a1 : zcu (M 20 0 1) i (zcA M j) = zcA M j := by unfold zcu zbq; rw [if_neg (by simpa using hb)]
      obtain ⟨M2, e2, c2, f2⟩ := ih (i + 1) n M (by omega) (by omega)
      exact ⟨M2, e2, by rw [c2, a1], f2⟩

def zmo : Nat → zA → zA := fun k A => if zfly A k then zmv A k else A
theorem zmv_s {A : zA} {k k' p : Nat} (h : k' ≠ k ∨ (p ≠ 1 ∧ p ≠ 2 ∧ p ≠ 3 ∧ p ≠ 4)) : zmv A k k' p = A k' p := by
  unfold zmv
  repeat' split
  all_goals (rw [zp_ne (by omega), zp_ne (by omega)])
theorem zKn_of {A B : zA} (h : B 6 0 = A 6 0) : zKn B = zKn A := by unfold zKn; rw [h]
theorem zmv_Kn {A : zA} {k : Nat} (hk : k < 6) : zKn (zmv A k) = zKn A := zKn_of (zmv_s (Or.inl (by omega)))
theorem zmv_kite {A : zA} {k : Nat} (h : zkite A k) : zkite (zmv A k) k := by
  have hs : ∀ p, (p ≠ 1 ∧ p ≠ 2 ∧ p ≠ 3 ∧ p ≠ 4) → zmv A k k p = A k p := fun p hp => zmv_s (Or.inr hp)
  obtain ⟨h0, h1, h2, h3, h4, h5, h6, h8, h9, h10, h11, h12, h13⟩ := h
  have n3 : (-(A k 3)).toInt = -(A k 3).toInt := zt_neg rfl (by omega)
  have n4 : (-(A k 4)).toInt = -(A k 4).toInt := zt_neg rfl (by omega)
  have key : (0 ≤ (zmv A k k 1).toInt ∧ (zmv A k k 1).toInt ≤ 63) ∧ (1 ≤ (zmv A k k 2).toInt ∧ (zmv A k k 2).toInt ≤ 47) ∧ (-3 ≤ (zmv A k k 3).toInt ∧ (zmv A k k 3).toInt ≤ 3) ∧ (-3 ≤ (zmv A k k 4).toInt ∧ (zmv A k k 4).toInt ≤ 3) := by
    unfold zmv
    cases w1 : zwin (A k 1 + A k 3) 0 63 <;> cases w2 : zwin (A k 2 + A k 4) 1 47
    all_goals
      simp only [zwin, Bool.and_eq_true, decide_eq_true_eq] at w1 w2
      simp [zp, -Int32.toInt_add, -Int32.toInt_neg]
      omega
  obtain ⟨k1, k2, k3, k4⟩ := key
  refine ⟨?_, k1, k2, k3, k4, ?_, ?_, ?_, ?_, ?_, ?_, ?_, ?_⟩
  · rw [hs 0 (by omega)]; exact h0
  · rw [hs 5 (by omega)]; exact h5
  · rw [hs 6 (by omega)]; exact h6
  · rw [hs 8 (by omega)]; exact h8
  · rw [hs 9 (by omega)]; exact h9
  · rw [hs 10 (by omega)]; exact h10
  · rw [hs 11 (by omega)]; exact h11
  · intro q hq; rw [hs (12 + q) (by omega)]; exact h12 q hq
  · rw [hs 8 (by omega), hs 6 (by omega)]; intro e q hq; rw [hs (12 + q) (by omega)]; exact h13 e q hq
theorem zkite_of {A B : zA} {k : Nat} (h : zkite A k) (he : ∀ p, p < 44 → p ≠ 7 → B k p = A k p) : zkite B k := by
  obtain ⟨h0, h1, h2, h3, h4, h5, h6, h8, h9, h10, h11, h12, h13⟩ := h
  refine ⟨?_, ?_, ?_, ?_, ?_, ?_, ?_, ?_, ?_, ?_, ?_, ?_, ?_⟩
  · rw [he 0 (by omega) (by omega)]; exact h0
  · rw [he 1 (by omega) (by omega)]; exact h1
  · rw [he 2 (by omega) (by omega)]; exact h2
  · rw [he 3 (by omega) (by omega)]; exact h3
  · rw [he 4 (by omega) (by omega)]; exact h4
  · rw [he 5 (by omega) (by omega)]; exact h5
  · rw [he 6 (by omega) (by omega)]; exact h6
  · rw [he 8 (by omega) (by omega)]; exact h8
  · rw [he 9 (by omega) (by omega)]; exact h9
  · rw [he 10 (by omega) (by omega)]; exact h10
  · rw [he 11 (by omega) (by omega)]; exact h11
  · intro q hq; rw [he (12 + q) (by omega) (by omega)]; exact h12 q hq
  · rw [he 8 (by omega) (by omega), he 6 (by omega) (by omega)]; intro e q hq; rw [he (12 + q) (by omega) (by omega)]; exact h13 e q hq
theorem zmv_ok {A : zA} {k : Nat} (h : zok A) (hk : k < zKn A) : zok (zmv A k) := by
  obtain ⟨h0, h1, h2⟩ := h
  have e6 : zmv A k 6 0 = A 6 0 := zmv_s (Or.inl (by omega))
  have eK := zKn_of e6
  refine ⟨by rw [e6, eK]; exact h0, by omega, fun k' hk' => ?_⟩
  by_cases hq : k' = k
  · subst hq; exact zmv_kite (h2 k' hk)
  · exact zkite_of (h2 k' (by omega)) (fun p _ _ => zmv_s (Or.inl hq))
theorem zmo_ok {A : zA} {k : Nat} (h : zok A) : zok (zmo k A) := by
  unfold zmo; split
  · next hf => exact zmv_ok h (zfly_lt hf).1
  · exact h
theorem l4_move {j : Nat} {k : zM → Int32 → Option (Unit × zM)} : ∀ (c i n : Nat) (M : zM), i + c = 6 → c < n → zok (zcA M j) →
    ∃ M', fX4_happenIn_L2 k j n M (nI i) = k M' (nI 6) ∧ zcA M' j = zf zmo c i (zcA M j) ∧ zfk j M M' := by
  intro c
  induction c with
  | zero =>
    intro i n M hi hn _
    obtain ⟨n, rfl⟩ : ∃ q, n = q + 1 := ⟨n - 1, by omega⟩
    obtain rfl : i = 6 := by omega
    exact ⟨M, rfl, rfl, zfk.refl⟩
  | succ c ih =>
    intro i n M hi hn hok
    obtain ⟨n, rfl⟩ : ∃ q, n = q + 1 := ⟨n - 1, by omega⟩
    have hi6 : i < 6 := by omega
    unfold fX4_happenIn_L2
    have hc : ¬ (6 : Int32) ≤ nI i := nI_ge (a := i) (b := 6) (by omega) (by omega)
    simp only [if_neg hc, zL_eq, nI_1]
    rw [e2_fly hok hi6, zC_some]
    simp only [zb_0]
    show ∃ M', _ ∧ zcA M' j = zf zmo c (i + 1) (zmo i (zcA M j)) ∧ _
    cases hf : zfly (zcA M j) i
    · simp only [if_true]
      obtain ⟨M2, e2, c2, f2⟩ := ih (i + 1) n M (by omega) (by omega) hok
      exact ⟨M2, e2, by rw [c2]; unfold zmo; rw [hf]; simp, f2⟩
    · simp only [Bool.true_eq_false, if_false]
      obtain ⟨M1, e1, c1, f1⟩ := e2_move (M := M) (j := j) hi6
      rw [e1, zC_some]
      have a1 : zcA M1 j = zmo i (zcA M j) := by rw [c1]; unfold zmo; rw [hf]; simp
      obtain ⟨M2, e2, c2, f2⟩ := ih (i + 1) n M1 (by omega) (by omega) (by rw [a1]; exact zmo_ok hok)
      exact ⟨M2, e2, by rw [c2, a1], zfk.trans f1 f2⟩
theorem zmos_ok {A : zA} (h : zok A) : zok (zf zmo 6 0 A) := zf_inv 6 0 A h (fun k _ _ s hs => zmo_ok hs)
def ztC (A : zA) : zA := zp (zf zmo 6 0 A) 6 2 (zf zmo 6 0 A 6 2 + 1)
theorem zp6_ok {A : zA} {p : Nat} {v : Int32} (h : zok A) (hp : p ≠ 0) : zok (zp A 6 p v) := by
  obtain ⟨h0, h1, h2⟩ := h
  have e6 : zp A 6 p v 6 0 = A 6 0 := zp_np (Ne.symm hp)
  have eK := zKn_of e6
  exact ⟨by rw [e6, eK]; exact h0, by omega, fun k hk => zkite_of (h2 k (by omega)) (fun p' _ _ => zp_nk (by omega))⟩
theorem ztC_ok {A : zA} (h : zok A) : zok (ztC A) := zp6_ok (zmos_ok h) (by omega)

theorem z_ex {α : Type} {a : α} {o o' : Option (α × zM)} {P : zM → Prop} (h : o = o') (hx : ∃ M', o' = some (a, M') ∧ P M') : ∃ M', o = some (a, M') ∧ P M' := by rw [h]; exact hx
def ztS (A : zA) : zA × Int32 × Int32 := (znt (ztC A)).foldl (zpt (ztC A)) ((znt (ztC A)).foldl (zad (ztC A)) (ztC A), 0, 0)
def ztk (A : zA) : zA := zf (zcu (ztS A).2.1) 6 0 (ztS A).1
theorem zcr_fly {C : zA} {i o : Nat} (h : zcr C i o = true) : i < zKn C ∧ o < zKn C := by
  unfold zcr at h
  rw [Bool.and_eq_true, Bool.and_eq_true] at h
  exact ⟨(zfly_lt h.1.1).1, (zfly_lt h.1.2).1⟩
theorem znt_gd {C : zA} (hz : zok C) : zgd C (znt C) := by
  unfold znt
  refine zf_inv (P := zgd C) 6 0 [] (fun q hq => by simp at hq) (fun i h1 h2 L hL => ?_)
  unfold zou
  split
  · refine zf_inv (P := zgd C) _ _ L hL (fun o h3 h4 L hL => ?_)
    unfold zin
    split
    · next hc =>
      intro q hq
      rcases List.mem_append.mp hq with hq | hq
      · exact hL q hq
      · have hc' : zcr C o i = true := by rw [zcr_sym]; exact hc
        simp only [List.mem_cons, List.not_mem_nil, or_false] at hq
        rcases hq with rfl | rfl
        · exact ⟨hz.hk (zcr_fly hc).1, hz.hk (zcr_fly hc).2, zpl_lt hc⟩
        · exact ⟨hz.hk (zcr_fly hc').1, hz.hk (zcr_fly hc').2, zpl_lt hc'⟩
    · exact hL
  · exact hL
theorem zad_60 {C : zA} : ∀ {L : List (Nat × Nat)} (_ : zgd C L) (A : zA), L.foldl (zad C) A 6 0 = A 6 0 := by
  intro L
  induction L with
  | nil => intro _ A; rfl
  | cons q L ih =>
    intro hg A
    rw [List.foldl_cons, ih (fun q hq => hg q (List.mem_cons_of_mem _ hq))]
    unfold zad
    exact zp_ne (by have := (hg q (List.mem_cons_self ..)).1.lt; omega)
theorem e4_wear {M : zM} {j : Nat} {C : zA} (hz : zok C) (hW : zwv M 1 C (znt C)) (hs : zsw C (zcA M j)) : ∃ M', fX4_wearStrings M j = some ((), M') ∧ zcA M' j = (znt C).foldl (zad C) (zcA M j) ∧ zfk j M M' := by
  unfold fX4_wearStrings
  obtain ⟨M1, e1, c1, f1⟩ := l4_wear (j := j) (C := C) (k := fun M26 v27 => some ((), M26)) (znt C) [] 2000 M hW hs (znt_gd hz) (by have := hW.2.1; omega)
  exact ⟨M1, e1, c1, f1⟩
theorem e4_points {M : zM} {j : Nat} {C : zA} (hz : zok C) (hW : zwv M 1 C (znt C)) (hS : zcA M j 6 0 = C 6 0) : ∃ M', fX4_givePoints M j = some ((), M') ∧ (zcA M' j, M' 20 0 1, M' 20 0 2) = (znt C).foldl (zpt C) (zcA M j, M 20 0 1, M 20 0 2) ∧ zft j M M' := by
  unfold fX4_givePoints
  obtain ⟨M1, e1, c1, f1⟩ := l4_points (j := j) (C := C) (k := fun M26 v27 => some ((), M26)) (znt C) [] 2000 M hW (znt_gd hz) hS (by have := hW.2.1; omega)
  exact ⟨M1, e1, c1, f1⟩
theorem e4_tick {M : zM} {j : Nat} (h : zok (zcA M j)) : ∃ M', fX4_happenIn M j = some ((), M') ∧ zcA M' j = ztk (zcA M j) ∧ M' 20 0 1 = (ztS (zcA M j)).2.1 ∧ M' 20 0 2 = (ztS (zcA M j)).2.2 ∧ zwv M' 1 (ztC (zcA M j)) (znt (ztC (zcA M j))) ∧ zfr j 1 M M' := by
  unfold fX4_happenIn
  obtain ⟨M1, e1, c1, f1⟩ := l4_move (j := j) (k := fun M26 v27 =>
    zL (zw M26 1 j 1 ((M26 1 j 1) + 1)) fun M28 =>
    zL (zw M28 20 0 1 0) fun M29 =>
    zL (zw M29 20 0 2 0) fun M30 =>
    zC (fX5_measure M30 1 j) fun _ M31 =>
    zC (fX4_wearStrings M31 j) fun _ M32 =>
    zC (fX4_givePoints M32 j) fun _ M33 =>
    if (M33 20 0 1) = 0 then some ((), M33) else zC (fX4_cutStrings M33 j) fun _ M34 => some ((), M34)) 6 0 2000 M (by omega) (by omega) h
  refine z_ex e1 ?_
  simp only [zL_eq]
  generalize hM2 : zw (zw (zw M1 1 j 1 (M1 1 j 1 + 1)) 20 0 1 0) 20 0 2 0 = M2
  have hC : zcA M2 j = ztC (zcA M j) := by
    rw [← hM2, zcA_skip (by omega), zcA_skip (by omega), zcs2, zs2 (M := M1), c1]; rfl
  have f2 : zfr j 1 M M2 := fun k i a b c => by
    rw [← hM2, zw_ne (by omega), zw_ne (by omega), zw_ne (by omega)]; exact f1 k i a
  have t1 : M2 20 0 1 = 0 := by rw [← hM2, zw_at]; unfold upd; rw [if_neg (by decide), zw_at]; unfold upd; rw [if_pos rfl]
  have t2 : M2 20 0 2 = 0 := by rw [← hM2, zw_at]; unfold upd; rw [if_pos rfl]
  have hok : zok (zcA M2 j) := by rw [hC]; exact ztC_ok h
  obtain ⟨M3, e3, w3, f3⟩ := e5_measure (w := 1) hok
  rw [e3, zC_some]
  rw [hC] at w3
  have c3 : zcA M3 j = ztC (zcA M j) := by rw [f3.cA, hC]
  obtain ⟨M4, e4, c4, f4⟩ := e4_wear (j := j) (ztC_ok h) w3 (by rw [c3]; exact fun _ _ _ => rfl)
  rw [e4, zC_some]
  obtain ⟨M5, e5, c5, f5⟩ := e4_points (j := j) (ztC_ok h) (f4.wv w3) (by rw [c4, c3]; exact zad_60 (znt_gd (ztC_ok h)) _)
  rw [e5, zC_some]
  have a1 : M4 20 0 1 = 0 := by rw [f4 20 0 (by omega), f3 20 0 (by omega)]; exact t1
  have a2 : M4 20 0 2 = 0 := by rw [f4 20 0 (by omega), f3 20 0 (by omega)]; exact t2
  rw [a1, a2, c4, c3] at c5
  have hS : (zcA M5 j, M5 20 0 1, M5 20 0 2) = ztS (zcA M j) := c5
  have g5 : zfr j 1 M M5 := f2.trans (f3.fr.trans (f4.fr.trans f5.fr))
  have w5 := f5.wv (f4.wv w3)
  have h1 : zcA M5 j = (ztS (zcA M j)).1 := congrArg Prod.fst hS
  have h2 : M5 20 0 1 = (ztS (zcA M j)).2.1 := congrArg (fun q => q.2.1) hS
  have h3 : M5 20 0 2 = (ztS (zcA M j)).2.2 := congrArg (fun q => q.2.2) hS
  by_cases hm : M5 20 0 1 = 0
  · rw [if_pos hm]
    refine ⟨M5, rfl, ?_, h2, h3, w5, g5⟩
    rw [h1]; unfold ztk; rw [← h2, hm]
    refine (zf_id 6 0 _ (fun k _ hk s => ?_)).symm
    unfold zcu zbq
    rw [if_neg]
    simp
  · rw [if_neg hm]
    obtain ⟨M6, e6, c6, f6⟩ := l4_cut (j := j) (k := fun M25 v26 => some ((), M25)) 6 0 2000 M5 (by omega) (by omega)
    have e6' : fX4_cutStrings M5 j = some ((), M6) := e6
    rw [e6', zC_some]
    refine ⟨M6, rfl, ?_, ?_, ?_, f6.wv w5, g5.trans f6.fr⟩
    · rw [c6, h1, h2]; rfl
    · rw [f6 20 0 (by omega)]; exact h2
    · rw [f6 20 0 (by omega)]; exact h3

