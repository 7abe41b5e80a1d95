/-! ===== a tick of the reference ===== -/
/-- what crossings rest on -/
def zsa (C A : zA) : Prop := ∀ k p, ((k < 6 ∧ p < 12 ∧ p ≠ 7) ∨ (k = 6 ∧ p = 0)) → A k p = C k p
theorem zsa.refl {C : zA} : zsa C C := fun _ _ _ => rfl
theorem zsa.fly {C A : zA} (h : zsa C A) {k : Nat} (hk : k < 6) : zfly A k = zfly C k := by
  unfold zfly zKn; rw [h 6 0 (by omega), h k 8 (by omega)]
theorem zsa.gp {C A : zA} (h : zsa C A) {k o : Nat} (hk : k < 6) (ho : o < 6) : zgp A k o = zgp C k o := by
  unfold zgp; rw [h k 0 (by omega), h o 0 (by omega)]
theorem zsa.tn {C A : zA} (h : zsa C A) {k o : Nat} (hk : k < 6) (ho : o < 6) : ztn A k o = ztn C k o := by
  unfold ztn; rw [h k 0 (by omega), h o 0 (by omega), h k 1 (by omega), h o 1 (by omega), h k 2 (by omega), h o 2 (by omega)]
theorem zsa.dt {C A : zA} (h : zsa C A) {k o : Nat} (hk : k < 6) (ho : o < 6) : zdt A k o = zdt C k o := by
  unfold zdt; rw [h k 0 (by omega), h o 0 (by omega), h k 1 (by omega), h o 1 (by omega), h k 2 (by omega), h o 2 (by omega)]
theorem zsa.ga {C A : zA} (h : zsa C A) {k o : Nat} (hk : k < 6) (ho : o < 6) : zga A k o = zga C k o := by
  unfold zga; rw [h.gp hk ho, h o 2 (by omega)]
theorem zsa.cr {C A : zA} (h : zsa C A) {k o : Nat} (hk : k < 6) (ho : o < 6) : zcr A k o = zcr C k o := by
  unfold zcr; rw [h.fly hk, h.fly ho, h.gp hk ho, h.tn hk ho, h.ga hk ho, h.ga ho hk]
theorem zsa.pl {C A : zA} (h : zsa C A) {k o : Nat} (hk : k < 6) (ho : o < 6) : zpl A k o = zpl C k o := by
  unfold zpl; rw [h.ga hk ho, h.tn hk ho]
theorem zsa.st {C A : zA} (h : zsa C A) {k o : Nat} (hk : k < 6) (ho : o < 6) : zst A k o = zst C k o := by
  unfold zst; rw [h.dt hk ho, h.tn hk ho]
theorem zsa.sl {C A : zA} (h : zsa C A) {k o : Nat} (hk : k < 6) (ho : o < 6) : zsl A k o = zsl C k o := by
  unfold zsl; rw [h k 3 (by omega), h o 3 (by omega), h k 4 (by omega), h o 4 (by omega)]
theorem zsa.rb {C A : zA} (h : zsa C A) {k o : Nat} (hk : k < 6) (ho : o < 6) : zrb A k o = zrb C k o := by
  unfold zrb; rw [h.st hk ho, h.sl hk ho, h o 5 (by omega)]
theorem zsa.ad {C A : zA} {q : Nat × Nat} (h : zsa C A) (hq : q.1 < 6) : zsa C (zad C A q) := fun k p hp => by
  unfold zad; rw [zp_ne (by omega)]; exact h k p hp
/-- frames of the reference: its scratch numbers, its state, its places -/
def zf7 (M M' : zM) : Prop := (∀ k i, k ≠ 26 → k ≠ 27 → k ≠ 33 → M' k i = M k i) ∧ ∀ s, ¬ (9 ≤ s ∧ s ≤ 13) → M' 26 0 s = M 26 0 s
theorem zf7.refl {M : zM} : zf7 M M := ⟨fun _ _ _ _ _ => rfl, fun _ _ => rfl⟩
theorem zf7.trans {M M1 M2 : zM} (h : zf7 M M1) (h2 : zf7 M1 M2) : zf7 M M2 := ⟨fun k i a b c => (h2.1 k i a b c).trans (h.1 k i a b c), fun s hs => (h2.2 s hs).trans (h.2 s hs)⟩
theorem zf7.w27 {M : zM} {s : Nat} {v : Int32} : zf7 M (zw M 27 0 s v) := ⟨fun k i a b c => zw_ne (by omega), fun s _ => by rw [zw_ne (by omega)]⟩
theorem zf7.w33 {M : zM} {s : Nat} {v : Int32} : zf7 M (zw M 33 0 s v) := ⟨fun k i a b c => zw_ne (by omega), fun s _ => by rw [zw_ne (by omega)]⟩
theorem zf7.w26 {M : zM} {s : Nat} {v : Int32} (hs : 9 ≤ s ∧ s ≤ 13) : zf7 M (zw M 26 0 s v) := ⟨fun k i a b c => zw_ne (by omega), fun s' h => by rw [zw_at]; unfold upd; rw [if_neg (by omega)]⟩
theorem e7_sliding {M : zM} {k o : Nat} (hk : k < 6) (ho : o < 6) : fX7_sliding M (nI k) (nI o) = some (zsl (zrA (M 27 0)) k o, M) := by
  unfold fX7_sliding zsl
  simp only [e7_p3 hk, e7_p3 ho, e7_p4 hk, e7_p4 ho, zC_some, e7_size]
theorem e7_more {M : zM} {k o : Nat} {b : Bool} (hk : k < 6) (ho : o < 6) (hb : M 26 0 11 = zb b) : fX7_more M (nI k) (nI o) = some (if b then 2 * (zrA (M 27 0) o 5 * zsl (zrA (M 27 0)) k o) else zrA (M 27 0) o 5 * zsl (zrA (M 27 0)) k o, M) := by
  unfold fX7_more
  simp only [e7_p5 ho, e7_sliding hk ho, zC_some, hb, zb_0]
  cases b
  · simp
  · simp [Int32.mul_comm]
def zria (C : zA) (k : Nat) : Nat → zA → zA := fun o A => if zcr C k o then zad C A (k, o) else A
theorem z6ix {a b : Nat} : 6 * nI a + nI b = nI (6 * a + b) := by rw [show (6 : Int32) = nI 6 from rfl, pk_mul, nI_add]
theorem z12 {a : Nat} : 12 + nI a = nI (12 + a) := by rw [show (12 : Int32) = nI 12 from rfl, nI_add]
theorem zcr_self {C : zA} {k : Nat} : zcr C k k = false := by unfold zcr; simp
theorem zsa.kp {C A : zA} (h : zsa C A) {k : Nat} (hk : k < 6) (hp : zkp C k) : zkp A k := by
  unfold zkp; rw [h k 0 (by omega), h k 1 (by omega), h k 2 (by omega)]; exact hp
theorem zsa.Kn {C A : zA} (h : zsa C A) : zKn A = zKn C := by unfold zKn; rw [h 6 0 (by omega)]
theorem zsa.M0 {C : zA} {M : zM} (h : zsa C (zrA (M 27 0))) (hC : zok C) : M 27 0 (zN 0) = nI (zKn C) := by
  rw [show zN 0 = 0 from rfl, zrs (f := M 27 0) (p := 0) (by omega), h 6 0 (by omega)]; exact hC.1
theorem l7_in {C : zA} {k0 K : Nat} (hC : zok C) (hKC : zKn C = K) (hk : k0 < K) {k : zM → Int32 → Option (Unit × zM)} : ∀ (c o n : Nat) (M : zM), o + c = K → c < n → zsa C (zrA (M 27 0)) →
    ∃ M', fX7_wearOut_L14 k (nI k0) n M (nI o) = k M' (nI K) ∧ zrA (M' 27 0) = zf (zria C k0) c o (zrA (M 27 0)) ∧ zsa C (zrA (M' 27 0)) ∧ (∀ o', o ≤ o' → o' < K → M' 33 0 (6 * k0 + o') = if zcr C k0 o' then nI (zpl C k0 o') else -6) ∧ (∀ s, (s < 6 * k0 + o ∨ 6 * k0 + K ≤ s) → M' 33 0 s = M 33 0 s) ∧ zf7 M M' := by
  have hK6 : K ≤ 6 := by rw [← hKC]; exact hC.2.1
  have kn : ∀ M : zM, zsa C (zrA (M 27 0)) → M 27 0 (zN 0) = nI K := fun M h => by rw [h.M0 hC, hKC]
  intro c
  induction c with
  | zero =>
    intro o n M ho hn hs
    obtain ⟨n, rfl⟩ : ∃ q, n = q + 1 := ⟨n - 1, by omega⟩
    obtain rfl : o = K := by omega
    unfold fX7_wearOut_L14
    have hc : M 27 0 (zN 0) ≤ nI o := by rw [kn M hs]; exact nI_le (Nat.le_refl _) (by omega)
    simp only [zI_eq (show zix 0 268 = true by decide), if_pos hc]
    exact ⟨M, rfl, rfl, hs, fun o' h1 h2 => by omega, fun s _ => rfl, zf7.refl⟩
  | succ c ih =>
    intro o n M ho hn hs
    obtain ⟨n, rfl⟩ : ∃ q, n = q + 1 := ⟨n - 1, by omega⟩
    have ho6 : o < 6 := by omega
    have hk6 : k0 < 6 := by omega
    unfold fX7_wearOut_L14
    have hc : ¬ M 27 0 (zN 0) ≤ nI o := by rw [kn M hs]; exact nI_ge (by omega) (by omega)
    have hx : zix (nI (6 * k0 + o)) 36 = true := zix_nI (by omega) (by omega)
    have hn2 : zN (nI (6 * k0 + o)) = 6 * k0 + o := zN_nI (by omega)
    simp only [zI_eq (show zix 0 268 = true by decide), if_neg hc, z6ix, zI_eq hx, hn2, zL_eq, nI_1]
    have e1 : (zw M 33 0 (6 * k0 + o) (-6)) 27 0 = M 27 0 := zw_ne (by omega)
    have s1 : zsa C (zrA ((zw M 33 0 (6 * k0 + o) (-6)) 27 0)) := by rw [e1]; exact hs
    have step : ∀ (M1 : zM), zrA (M1 27 0) = zria C k0 o (zrA (M 27 0)) → zsa C (zrA (M1 27 0)) → M1 33 0 (6 * k0 + o) = (if zcr C k0 o then nI (zpl C k0 o) else -6) → (∀ s, s ≠ 6 * k0 + o → M1 33 0 s = M 33 0 s) → zf7 M M1 →
        ∃ M', fX7_wearOut_L14 k (nI k0) n M1 (nI (o + 1)) = k M' (nI K) ∧ zrA (M' 27 0) = zf (zria C k0) (c + 1) o (zrA (M 27 0)) ∧ zsa C (zrA (M' 27 0)) ∧ (∀ o', o ≤ o' → o' < K → M' 33 0 (6 * k0 + o') = if zcr C k0 o' then nI (zpl C k0 o') else -6) ∧ (∀ s, (s < 6 * k0 + o ∨ 6 * k0 + K ≤ s) → M' 33 0 s = M 33 0 s) ∧ zf7 M M' := by
      intro M1 a1 a2 a3 a4 a5
      obtain ⟨M2, e2, c2, s2, p2, q2, f2⟩ := ih (o + 1) n M1 (by omega) (by omega) a2
      refine ⟨M2, e2, by rw [c2, a1]; rfl, s2, fun o' h1 h2 => ?_, fun s h => ?_, a5.trans f2⟩
      · by_cases h : o' = o
        · rw [h, q2 _ (by omega), a3]
        · exact p2 o' (by omega) h2
      · rw [q2 s (by omega), a4 s (by omega)]
    by_cases hko : k0 = o
    · subst hko
      rw [if_pos rfl]
      refine step _ ?_ s1 ?_ (fun s h => ?_) zf7.w33
      · rw [e1]; unfold zria; rw [zcr_self]; simp
      · rw [zw_at]; unfold upd; rw [if_pos rfl, zcr_self]; simp
      · rw [zw_at]; unfold upd; rw [if_neg h]
    · have hne : ¬ nI k0 = nI o := by rw [zeq (by omega) (by omega)]; exact hko
      rw [if_neg hne]
      rw [e7_cross (by rw [s1.Kn]; exact hC.2.1) (s1.kp hk6 (hC.2.2 k0 (by omega)).kp) (s1.kp ho6 (hC.2.2 o (by omega)).kp) hko (by rw [s1.Kn]; omega) (by rw [s1.Kn]; omega), zC_some]
      rw [e1, hs.cr hk6 ho6, hs.pl hk6 ho6, hs.pl ho6 hk6, hs.st hk6 ho6]
      simp only [zb_0]
      cases hcr : zcr C k0 o
      · simp only [if_true, Bool.false_eq_true, if_false]
        refine step _ ?_ s1 ?_ (fun s h => ?_) zf7.w33
        · rw [e1]; unfold zria; rw [hcr]; simp
        · rw [zw_at]; unfold upd; rw [if_pos rfl, hcr]; simp
        · rw [zw_at]; unfold upd; rw [if_neg h]
      · simp only [Bool.true_eq_false, if_false, if_true]
        have hpl := zpl_lt hcr
        generalize hM3 : zw (zw (zw (zw M 33 0 (6 * k0 + o) (-6)) 26 0 9 (nI (zpl C k0 o))) 26 0 10 (nI (zpl C o k0))) 26 0 11 (zb (zst C k0 o)) = M3
        have p9 : M3 26 0 9 = nI (zpl C k0 o) := by
          rw [← hM3, zw_at]; unfold upd; rw [if_neg (by decide), zw_at]; unfold upd; rw [if_neg (by decide), zw_at]; unfold upd; rw [if_pos rfl]
        have p11 : M3 26 0 11 = zb (zst C k0 o) := by rw [← hM3, zw_at]; unfold upd; rw [if_pos rfl]
        have f3 : zf7 M M3 := by rw [← hM3]; exact zf7.w33.trans ((zf7.w26 (by omega)).trans ((zf7.w26 (by omega)).trans (zf7.w26 (by omega))))
        have e3 : M3 27 0 = M 27 0 := by rw [← hM3, zw_ne (by omega), zw_ne (by omega), zw_ne (by omega), e1]
        have e33 : ∀ s, s ≠ 6 * k0 + o → M3 33 0 s = M 33 0 s := fun s h => by
          rw [← hM3, zw_ne (by omega), zw_ne (by omega), zw_ne (by omega), zw_at]; unfold upd; rw [if_neg h]
        rw [p9]
        generalize hM4 : zw M3 33 0 (6 * k0 + o) (nI (zpl C k0 o)) = M4
        have e4 : M4 27 0 = M 27 0 := by rw [← hM4, zw_ne (by omega), e3]
        have p49 : M4 26 0 9 = nI (zpl C k0 o) := by rw [← hM4, zw_ne (by omega), p9]
        have p411 : M4 26 0 11 = zb (zst C k0 o) := by rw [← hM4, zw_ne (by omega), p11]
        rw [p49, z12, e7_part hk6 (by omega), zC_some, e7_more hk6 ho6 p411, zC_some, e7_set hk6 (by omega), zC_some]
        rw [e4]
        generalize hM5 : zw M4 27 0 (44 * k0 + (12 + zpl C k0 o) + 4) _ = M5
        have c5 : zrA (M5 27 0) = zad C (zrA (M 27 0)) (k0, o) := by
          rw [← hM5, zw_at, zru hk6 (by omega), e4]
          unfold zad zrb
          rw [hs.sl hk6 ho6, hs o 5 (by omega)]
        have e53 : M5 33 0 = M4 33 0 := by rw [← hM5, zw_ne (by omega)]
        refine step M5 ?_ (by rw [c5]; exact hs.ad hk6) ?_ (fun s h => ?_) (by rw [← hM5, ← hM4]; exact f3.trans (zf7.w33.trans zf7.w27))
        · rw [c5]; unfold zria; rw [hcr]; simp
        · rw [e53, ← hM4, zw_at]; unfold upd; rw [if_pos rfl, hcr]; simp
        · rw [e53, ← hM4, zw_at]; unfold upd; rw [if_neg h, e33 s h]
def zroa (C : zA) (K : Nat) : Nat → zA → zA := fun k A => zf (zria C k) K 0 A
theorem l7_out {C : zA} {K : Nat} (hC : zok C) (hKC : zKn C = K) {k : zM → Int32 → Option (Unit × zM)} : ∀ (c i n : Nat) (M : zM), i + c = K → c < n → zsa C (zrA (M 27 0)) →
    ∃ M', fX7_wearOut_L2 k n M (nI i) = k M' (nI K) ∧ zrA (M' 27 0) = zf (zroa C K) c i (zrA (M 27 0)) ∧ zsa C (zrA (M' 27 0)) ∧ (∀ i' o', i ≤ i' → i' < K → o' < K → M' 33 0 (6 * i' + o') = if zcr C i' o' then nI (zpl C i' o') else -6) ∧ (∀ s, s < 6 * i → M' 33 0 s = M 33 0 s) ∧ zf7 M M' := by
  have hK6 : K ≤ 6 := by rw [← hKC]; exact hC.2.1
  have kn : ∀ M : zM, zsa C (zrA (M 27 0)) → M 27 0 (zN 0) = nI K := fun M h => by rw [h.M0 hC, hKC]
  intro c
  induction c with
  | zero =>
    intro i n M hi hn hs
    obtain ⟨n, rfl⟩ : ∃ q, n = q + 1 := ⟨n - 1, by omega⟩
    obtain rfl : i = K := by omega
    unfold fX7_wearOut_L2
    have hc : M 27 0 (zN 0) ≤ nI i := by rw [kn M hs]; exact nI_le (Nat.le_refl _) (by omega)
    simp only [zI_eq (show zix 0 268 = true by decide), if_pos hc]
    exact ⟨M, rfl, rfl, hs, fun i' o' h1 h2 => by omega, fun s _ => rfl, zf7.refl⟩
  | succ c ih =>
    intro i n M hi hn hs
    obtain ⟨n, rfl⟩ : ∃ q, n = q + 1 := ⟨n - 1, by omega⟩
    unfold fX7_wearOut_L2
    have hc : ¬ M 27 0 (zN 0) ≤ nI i := by rw [kn M hs]; exact nI_ge (by omega) (by omega)
    simp only [zI_eq (show zix 0 268 = true by decide), if_neg hc, zL_eq, nI_1]
    obtain ⟨M1, e1, c1, s1, p1, q1, f1⟩ := l7_in hC hKC (show i < K by omega) (k := fun M33 v34 => fX7_wearOut_L2 k n M33 (nI (i + 1))) K 0 2000 M (by omega) (by omega) hs
    obtain ⟨M2, e2, c2, s2, p2, q2, f2⟩ := ih (i + 1) n M1 (by omega) (by omega) s1
    refine ⟨M2, e1.trans e2, ?_, s2, fun i' o' h1 h2 h3 => ?_, fun s h => ?_, f1.trans f2⟩
    · rw [c2, c1]; rfl
    · by_cases h : i' = i
      · subst h
        rw [q2 _ (by omega)]; exact p1 o' (by omega) h3
      · exact p2 i' o' (by omega) h2 h3
    · rw [q2 s (by omega), q1 s (by omega)]
theorem e7_wear {M : zM} (hC : zok (zrA (M 27 0))) : ∃ M', fX7_wearOut M = some ((), M') ∧ zrA (M' 27 0) = zf (zroa (zrA (M 27 0)) (zKn (zrA (M 27 0)))) (zKn (zrA (M 27 0))) 0 (zrA (M 27 0)) ∧ zsa (zrA (M 27 0)) (zrA (M' 27 0)) ∧ (∀ i' o', i' < zKn (zrA (M 27 0)) → o' < zKn (zrA (M 27 0)) → M' 33 0 (6 * i' + o') = if zcr (zrA (M 27 0)) i' o' then nI (zpl (zrA (M 27 0)) i' o') else -6) ∧ zf7 M M' := by
  unfold fX7_wearOut
  obtain ⟨M1, e1, c1, s1, p1, q1, f1⟩ := l7_out hC rfl (k := fun M36 v37 => some ((), M36)) (zKn (zrA (M 27 0))) 0 2000 M (by omega) (by have := hC.2.1; omega) zsa.refl
  exact ⟨M1, e1, c1, s1, fun i' o' h1 h2 => p1 i' o' (by omega) h1 h2, f1⟩
