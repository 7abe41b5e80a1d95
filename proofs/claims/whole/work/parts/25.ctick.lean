def zfk (j : Nat) (M M' : zM) : Prop := ∀ k i, ¬ (1 ≤ k ∧ k ≤ 14 ∧ i = j) → M' k i = M k i
theorem zfk.refl {j : Nat} {M : zM} : zfk j M M := fun _ _ _ => rfl
theorem zfk.trans {j : Nat} {M M1 M2 : zM} (h : zfk j M M1) (h2 : zfk j M1 M2) : zfk j M M2 := fun k i a => (h2 k i a).trans (h k i a)
theorem zfk.fr {w j : Nat} {M M' : zM} (h : zfk j M M') : zfr j w M M' := fun k i a _ _ => h k i a
theorem zfk.wv {j w : Nat} {M M' : zM} {C : zA} {L : List (Nat × Nat)} (h : zfk j M M') (hw : zwv M w C L) : zwv M' w C L := hw.keep (fun k h1 h2 => h k w (by omega))
def zsw (C A : zA) : Prop := ∀ k p, (p < 12 ∨ 6 ≤ k) → A k p = C k p
theorem zsw.rb {C A : zA} (h : zsw C A) (k o : Nat) : zrb C k o = if zst C k o then 2 * (A o 5 * zsl A k o) else A o 5 * zsl A k o := by
  unfold zrb zsl
  rw [h k 3 (by omega), h o 3 (by omega), h k 4 (by omega), h o 4 (by omega), h o 5 (by omega)]
theorem zsw.ad {C A : zA} {q : Nat × Nat} (h : zsw C A) (hq : q.1 < 6) : zsw C (zad C A q) := fun k p hp => by
  unfold zad; rw [zp_ne (by omega)]; exact h k p hp
theorem e2_sliding {M : zM} {j k o : Nat} (hk : k < 6) (ho : o < 6) : fX2_sliding M j (nI k) (nI o) = some (zsl (zcA M j) k o, M) := by
  unfold fX2_sliding zsl
  simp only [zI_eq (zix_nI hk (show 6 < 2 ^ 31 by omega)), zI_eq (zix_nI ho (show 6 < 2 ^ 31 by omega)), zN_nI (show k < 2 ^ 31 by omega), zN_nI (show o < 2 ^ 31 by omega), zr3 hk, zr3 ho, zr4 hk, zr4 ho]
/-- kite k is there -/
def zhk (A : zA) (k : Nat) : Prop := A 6 0 = nI (zKn A) ∧ zKn A ≤ 6 ∧ k < zKn A
theorem zhk.lt {A : zA} {k : Nat} (h : zhk A k) : k < 6 := by have := h.2.1; have := h.2.2; omega
theorem zok.hk {A : zA} {k : Nat} (h : zok A) (hk : k < zKn A) : zhk A k := ⟨h.1, h.2.1, hk⟩
theorem zhk.of {A B : zA} {k : Nat} (h : zhk A k) (e : B 6 0 = A 6 0) : zhk B k := by
  have e2 : zKn B = zKn A := by unfold zKn; rw [e]
  exact ⟨by rw [e, e2]; exact h.1, by rw [e2]; exact h.2.1, by rw [e2]; exact h.2.2⟩
theorem e2_hask {M : zM} {j k : Nat} (h : zhk (zcA M j) k) : fX2_has M j (nI k) = some (1, M) := by
  obtain ⟨h1, hK, h2⟩ := h
  have h0 : M 1 j 0 = nI (zKn (zcA M j)) := h1
  unfold fX2_has
  rw [h0]
  generalize zKn (zcA M j) = K at *
  rw [if_neg (nI_pos (by omega)), if_neg (nI_ge (by omega) (by omega)), if_neg (show ¬ (6 : Int32) ≤ nI k from nI_ge (a := k) (b := 6) (by omega) (by omega))]
theorem e2_rub {M : zM} {j k o : Nat} {b : Bool} (hk : zhk (zcA M j) k) (ho : zhk (zcA M j) o) : fX2_rubbing M j (nI k) (nI o) (zb b) = some (if b then 2 * (zcA M j o 5 * zsl (zcA M j) k o) else zcA M j o 5 * zsl (zcA M j) k o, M) := by
  unfold fX2_rubbing
  simp only [e2_hask hk, e2_hask ho, zC_some, eq_false (show ¬ (1 : Int32) = 0 by decide), if_false, zI_eq (zix_nI ho.lt (show 6 < 2 ^ 31 by omega)), e2_sliding hk.lt ho.lt, zL_eq, zN_nI (show o < 2 ^ 31 by have := ho.lt; omega), zr5 ho.lt, zb_0]
  cases b <;> simp
theorem z2ix {k p : Nat} : nI k * 32 + nI p = nI (32 * k + p) := by
  rw [show (32 : Int32) = nI 32 from rfl, pk_mul, nI_add, Nat.mul_comm]
theorem e2_place {M : zM} {j k p : Nat} (hk : zhk (zcA M j) k) (hp : p < 32) : fX2_hasPlace M j (nI k) (nI p) = some (1, M) := by
  have hw : zwin (nI p) (0 : Int32).toInt (31 : Int32).toInt = true := by
    unfold zwin
    rw [nI_toInt (by omega), show (0 : Int32).toInt = 0 from rfl, show (31 : Int32).toInt = 31 from rfl, decide_eq_true (by omega), decide_eq_true (by omega)]; rfl
  unfold fX2_hasPlace
  rw [e2_hask hk, zC_some, if_neg (by decide), e2_within, hw, zC_some, if_neg (by decide)]
theorem e2_wearAt {M : zM} {j k p : Nat} (hz : zhk (zcA M j) k) (hp : p < 32) : fX2_wearAt M j (nI k) (nI p) = some (zcA M j k (12 + p), M) := by
  have hk := hz.lt
  unfold fX2_wearAt
  rw [e2_place hz hp, zC_some, if_neg (by decide), z2ix, zI_eq (zix_nI (by omega) (by omega)), zN_nI (by omega), zrw (M := M) hk hp]
theorem e2_wearDown {M : zM} {j k p : Nat} {v : Int32} (hz : zhk (zcA M j) k) (hp : p < 32) : ∃ M', fX2_wearDown M j (nI k) (nI p) v = some ((), M') ∧ zcA M' j = zp (zcA M j) k (12 + p) (zcA M j k (12 + p) + v) ∧ zfk j M M' := by
  have hk := hz.lt
  unfold fX2_wearDown
  rw [e2_place hz hp, zC_some, if_neg (by decide), z2ix, zI_eq (zix_nI (by omega) (by omega)), zI_eq (zix_nI (by omega) (by omega)), zN_nI (by omega), zL_eq]
  refine ⟨_, rfl, ?_, fun k' i' h => zw_ne (by omega)⟩
  rw [zc_w hk hp, zrw (M := M) hk hp]
theorem e2_worn {M : zM} {j k p : Nat} (hz : zhk (zcA M j) k) (hp : p < 32) : fX2_isWornThrough M j (nI k) (nI p) = some (zb (decide ((zcA M j k 6).toInt ≤ (zcA M j k (12 + p)).toInt)), M) := by
  have hk := hz.lt
  unfold fX2_isWornThrough
  simp only [e2_hask hz, eq_false (show ¬ (1 : Int32) = 0 by decide), if_false, e2_wearAt hz hp, zC_some, zI_eq (zix_nI hk (show 6 < 2 ^ 31 by omega)), zN_nI (show k < 2 ^ 31 by omega), zr6 hk, zlt_i, zb]
  by_cases c : (zcA M j k (12 + p)).toInt < (zcA M j k 6).toInt
  · simp [c, show ¬ (zcA M j k 6).toInt ≤ (zcA M j k (12 + p)).toInt by omega]
  · simp [c, show (zcA M j k 6).toInt ≤ (zcA M j k (12 + p)).toInt by omega]
def zgd (C : zA) (L : List (Nat × Nat)) : Prop := ∀ q, q ∈ L → zhk C q.1 ∧ zhk C q.2 ∧ zpl C q.1 q.2 < 32
theorem l4_wear {j : Nat} {C : zA} {k : zM → Int32 → Option (Unit × zM)} : ∀ (L2 L1 : List (Nat × Nat)) (n : Nat) (M : zM), zwv M 1 C (L1 ++ L2) → zsw C (zcA M j) → zgd C (L1 ++ L2) → L2.length < n →
    ∃ M', fX4_wearStrings_L2 k j n M (nI L1.length) = k M' (nI (L1 ++ L2).length) ∧ zcA M' j = L2.foldl (zad C) (zcA M j) ∧ zfk j M M' := by
  intro L2
  induction L2 with
  | nil =>
    intro L1 n M hW hs hg hn
    obtain ⟨n, rfl⟩ : ∃ q, n = q + 1 := ⟨n - 1, by omega⟩
    obtain ⟨h1, h2, h3⟩ := hW
    unfold fX4_wearStrings_L2
    rw [List.append_nil] at h1 h2 ⊢
    have hc : M 15 1 4 ≤ nI L1.length := by rw [h1]; exact nI_le (Nat.le_refl _) (by omega)
    simp only [if_pos hc]
    exact ⟨M, rfl, rfl, zfk.refl⟩
  | cons q L2 ih =>
    intro L1 n M hW hs hg hn
    obtain ⟨n, rfl⟩ : ∃ q, n = q + 1 := ⟨n - 1, by omega⟩
    obtain ⟨h1, h2, h3⟩ := id hW
    have hlen : (L1 ++ q :: L2).length = L1.length + 1 + L2.length := by simp; omega
    unfold fX4_wearStrings_L2
    have hc : ¬ M 15 1 4 ≤ nI L1.length := by rw [h1]; exact nI_ge (by omega) (by omega)
    have hq : (L1 ++ q :: L2)[L1.length]? = some q := by simp
    obtain ⟨r1, r2, r3, r4⟩ := h3 _ _ hq
    obtain ⟨g1, g2, g3⟩ := hg q (by simp)
    have hc30 : ¬ (30 : Int32) ≤ nI L1.length := nI_ge (a := L1.length) (b := 30) (by omega) (by omega)
    simp only [if_neg hc, if_neg hc30, zI_eq (zix_nI (show L1.length < 30 by omega) (show 30 < 2 ^ 31 by omega)), zN_nI (show L1.length < 2 ^ 31 by omega), zL_eq, r1, r2, r3, r4, e2_rub (g1.of (hs 6 0 (by omega))) (g2.of (hs 6 0 (by omega))), zC_some, nI_1]
    obtain ⟨M1, e1, c1, f1⟩ := e2_wearDown (M := M) (j := j) (v := if zst C q.1 q.2 = true then 2 * (zcA M j q.2 5 * zsl (zcA M j) q.1 q.2) else zcA M j q.2 5 * zsl (zcA M j) q.1 q.2) (g1.of (hs 6 0 (by omega))) g3
    rw [e1, zC_some]
    have hA : zcA M1 j = zad C (zcA M j) q := by rw [c1]; unfold zad; rw [hs.rb q.1 q.2]
    obtain ⟨M2, e2, c2, f2⟩ := ih (L1 ++ [q]) n M1 (by rw [List.append_assoc]; exact f1.wv hW) (by rw [hA]; exact hs.ad g1.lt) (by rw [List.append_assoc]; exact hg) (by simp at hn; omega)
    rw [List.append_assoc] at e2
    refine ⟨M2, ?_, ?_, f1.trans f2⟩
    · rw [show (L1 ++ [q]).length = L1.length + 1 by simp] at e2; exact e2
    · rw [c2, hA]; rfl
def zpt (C : zA) (s : zA × Int32 × Int32) (q : Nat × Nat) : zA × Int32 × Int32 := if zht C s.1 q.1 q.2 then (zp s.1 q.2 7 (s.1 q.2 7 + 1), s.2.1 ||| zbit q.1, s.2.2 ||| zbit q.2) else s
/-- only the sky's rows and the tick's numbers change -/
def zft (j : Nat) (M M' : zM) : Prop := ∀ k i, ¬ (1 ≤ k ∧ k ≤ 14 ∧ i = j) → k ≠ 20 → M' k i = M k i
theorem zft.refl {j : Nat} {M : zM} : zft j M M := fun _ _ _ _ => rfl
theorem zft.trans {j : Nat} {M M1 M2 : zM} (h : zft j M M1) (h2 : zft j M1 M2) : zft j M M2 := fun k i a b => (h2 k i a b).trans (h k i a b)
theorem zft.fr {w j : Nat} {M M' : zM} (h : zft j M M') : zfr j w M M' := fun k i a _ c => h k i a c
theorem zft.wv {j w : Nat} {M M' : zM} {C : zA} {L : List (Nat × Nat)} (h : zft j M M') (hw : zwv M w C L) : zwv M' w C L := hw.keep (fun k h1 h2 => h k w (by omega) (by omega))
theorem l4_points {j : Nat} {C : zA} {k : zM → Int32 → Option (Unit × zM)} : ∀ (L2 L1 : List (Nat × Nat)) (n : Nat) (M : zM), zwv M 1 C (L1 ++ L2) → zgd C (L1 ++ L2) → zcA M j 6 0 = C 6 0 → L2.length < n →
    ∃ M', fX4_givePoints_L2 k j n M (nI L1.length) = k M' (nI (L1 ++ L2).length) ∧ (zcA M' j, M' 20 0 1, M' 20 0 2) = L2.foldl (zpt C) (zcA M j, M 20 0 1, M 20 0 2) ∧ zft j M M' := by
  intro L2
  induction L2 with
  | nil =>
    intro L1 n M hW hg hS hn
    obtain ⟨n, rfl⟩ : ∃ q, n = q + 1 := ⟨n - 1, by omega⟩
    obtain ⟨h1, h2, h3⟩ := hW
    unfold fX4_givePoints_L2
    rw [List.append_nil] at h1 h2 ⊢
    have hc : M 15 1 4 ≤ nI L1.length := by rw [h1]; exact nI_le (Nat.le_refl _) (by omega)
    simp only [if_pos hc]
    exact ⟨M, rfl, rfl, zft.refl⟩
  | cons q L2 ih =>
    intro L1 n M hW hg hS hn
    obtain ⟨n, rfl⟩ : ∃ q, n = q + 1 := ⟨n - 1, by omega⟩
    obtain ⟨h1, h2, h3⟩ := id hW
    have hlen : (L1 ++ q :: L2).length = L1.length + 1 + L2.length := by simp; omega
    unfold fX4_givePoints_L2
    have hc : ¬ M 15 1 4 ≤ nI L1.length := by rw [h1]; exact nI_ge (by omega) (by omega)
    have hq : (L1 ++ q :: L2)[L1.length]? = some q := by simp
    obtain ⟨r1, r2, r3, r4⟩ := h3 _ _ hq
    obtain ⟨g1, g2, g3⟩ := hg q (by simp)
    have hc30 : ¬ (30 : Int32) ≤ nI L1.length := nI_ge (a := L1.length) (b := 30) (by omega) (by omega)
    simp only [if_neg hc, if_neg hc30, zI_eq (zix_nI (show L1.length < 30 by omega) (show 30 < 2 ^ 31 by omega)), zN_nI (show L1.length < 2 ^ 31 by omega), zL_eq, r1, r2, r3, e2_worn (g1.of hS) g3, e2_hask (g2.of hS), zC_some, eq_false (show ¬ (1 : Int32) = 0 by decide), nI_1, zb_0]
    rw [List.foldl_cons]
    have hst : zht C (zcA M j) q.1 q.2 = decide ((zcA M j q.1 6).toInt ≤ (zcA M j q.1 (12 + zpl C q.1 q.2)).toInt) := rfl
    rw [← hst]
    cases hh : zht C (zcA M j) q.1 q.2
    · simp only [if_true]
      obtain ⟨M2, e2, c2, f2⟩ := ih (L1 ++ [q]) n M (by rw [List.append_assoc]; exact hW) (by rw [List.append_assoc]; exact hg) hS (by simp at hn; omega)
      rw [List.append_assoc] at e2
      refine ⟨M2, ?_, ?_, f2⟩
      · rw [show (L1 ++ [q]).length = L1.length + 1 by simp] at e2; exact e2
      · rw [c2]; unfold zpt; rw [hh]; simp
    · simp only [Bool.true_eq_false, if_false, zI_eq (zix_nI g2.lt (show 6 < 2 ^ 31 by omega)), zN_nI (show q.2 < 2 ^ 31 by have := g2.lt; omega)]
      generalize hM1 : zw (zw (zw M 9 j q.2 (M 9 j q.2 + 1)) 20 0 2 ((zw M 9 j q.2 (M 9 j q.2 + 1)) 20 0 2 ||| 1 <<< (nI q.2 &&& 31))) 20 0 1 ((zw (zw M 9 j q.2 (M 9 j q.2 + 1)) 20 0 2 ((zw M 9 j q.2 (M 9 j q.2 + 1)) 20 0 2 ||| 1 <<< (nI q.2 &&& 31))) 20 0 1 ||| 1 <<< (nI q.1 &&& 31)) = M1
      have f1 : zft j M M1 := by
        intro k i a b
        rw [← hM1, zw_ne (by omega), zw_ne (by omega), zw_ne (by omega)]
      have a1 : zcA M1 j = zp (zcA M j) q.2 7 (zcA M j q.2 7 + 1) := by
        rw [← hM1, zcA_skip (by omega), zcA_skip (by omega), zc7 g2.lt, zr7 (M := M) g2.lt]
      obtain ⟨M2, e2, c2, f2⟩ := ih (L1 ++ [q]) n M1 (by rw [List.append_assoc]; exact f1.wv hW) (by rw [List.append_assoc]; exact hg) (by rw [a1, zp_ne (by have := g2.lt; omega)]; exact hS) (by simp at hn; omega)
      rw [List.append_assoc] at e2
      refine ⟨M2, ?_, ?_, f1.trans f2⟩
      · rw [show (L1 ++ [q]).length = L1.length + 1 by simp] at e2; exact e2
      · rw [c2]
        congr 1
        unfold zpt
        rw [hh]
        have a2 : M1 20 0 1 = M 20 0 1 ||| zbit q.1 := by
          rw [← hM1, zw_at]; unfold upd; rw [if_pos rfl, zw_at]; unfold upd; rw [if_neg (by decide), zw_ne (by omega)]; rfl
        have a3 : M1 20 0 2 = M 20 0 2 ||| zbit q.2 := by
          rw [← hM1, zw_at]; unfold upd; rw [if_neg (by decide), zw_at]; unfold upd; rw [if_pos rfl, zw_ne (by omega)]; rfl
        rw [a1, a2, a3]; simp
def zcu (m : Int32) : Nat → zA → zA := fun k A => if zbq m k then zp (zp A k 8 1) 6 3 (A 6 3 + 1) else A
theorem l4_cut {j : Nat} {k : zM → Int32 → Option (Unit × zM)} : ∀ (c i n : Nat) (M : zM), i + c = 6 → c < n →
    ∃ M', fX4_cutStrings_L2 k j n M (nI i) = k M' (nI 6) ∧ zcA M' j = zf (zcu (M 20 0 1)) c i (zcA M j) ∧ zfk j M M' := by
  intro c
  induction c with
  | zero =>
    intro i n M hi hn
    obtain ⟨n, rfl⟩ : ∃ q, n = q + 1 := ⟨n - 1, by omega⟩
    obtain rfl : i = 6 := by omega
    exact ⟨M, rfl, rfl, zfk.refl⟩
  | succ c ih =>
    intro i n M hi hn
    obtain ⟨n, rfl⟩ : ∃ q, n = q + 1 := ⟨n - 1, by omega⟩
    have hi6 : i < 6 := by omega
    unfold fX4_cutStrings_L2
    have hc : ¬ (6 : Int32) ≤ nI i := nI_ge (a := i) (b := 6) (by omega) (by omega)
    simp only [if_neg hc, zL_eq, nI_1]
    show ∃ M', _ ∧ zcA M' j = zf (zcu (M 20 0 1)) c (i + 1) (zcu (M 20 0 1) i (zcA M j)) ∧ _
    by_cases hb : ((M 20 0 1 >>> (nI i &&& 31)) &&& 1) = 1
    · simp only [if_pos hb, zI_eq (zix_nI hi6 (show 6 < 2 ^ 31 by omega)), zN_nI (show i < 2 ^ 31 by omega)]
      generalize hM1 : zw (zw M 10 j i 1) 1 j 3 ((zw M 10 j i 1) 1 j 3 + 1) = M1
      have f1 : zfk j M M1 := fun k' i' h => by rw [← hM1, zw_ne (by omega), zw_ne (by omega)]
      have a0 : M1 20 0 1 = M 20 0 1 := by rw [f1 20 0 (by omega)]
      have a1 : zcA M1 j = zcu (M 20 0 1) i (zcA M j) := by
        rw [← hM1, zcs3, zc8 hi6, zw_ne (by omega)]
        unfold zcu zbq; rw [if_pos (by simpa using hb)]; rfl
      obtain ⟨M2, e2, c2, f2⟩ := ih (i + 1) n M1 (by omega) (by omega)
      exact ⟨M2, e2, by rw [c2, a0, a1], f1.trans f2⟩
    · simp only [if_neg hb]
      have a1 : zcu (M 20 0 1) i (zcA M j) = zcA M j := by unfold zcu zbq; rw [if_neg (by simpa using hb)]
      obtain ⟨M2, e2, c2, f2⟩ := ih (i + 1) n M (by omega) (by omega)
      exact ⟨M2, e2, by rw [c2, a1], f2⟩
