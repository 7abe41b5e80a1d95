theorem e7_s0 {M : zM} {k : Nat} {v : Int32} (hk : k < 6) : fX7_setPart M (nI k) 0 v = some ((), zw M 27 0 (44 * k + 0 + 4) v) := e7_set (p := 0) hk (by omega)
theorem e7_s1 {M : zM} {k : Nat} {v : Int32} (hk : k < 6) : fX7_setPart M (nI k) 1 v = some ((), zw M 27 0 (44 * k + 1 + 4) v) := e7_set (p := 1) hk (by omega)
theorem e7_s2 {M : zM} {k : Nat} {v : Int32} (hk : k < 6) : fX7_setPart M (nI k) 2 v = some ((), zw M 27 0 (44 * k + 2 + 4) v) := e7_set (p := 2) hk (by omega)
theorem e7_s3 {M : zM} {k : Nat} {v : Int32} (hk : k < 6) : fX7_setPart M (nI k) 3 v = some ((), zw M 27 0 (44 * k + 3 + 4) v) := e7_set (p := 3) hk (by omega)
theorem e7_s4 {M : zM} {k : Nat} {v : Int32} (hk : k < 6) : fX7_setPart M (nI k) 4 v = some ((), zw M 27 0 (44 * k + 4 + 4) v) := e7_set (p := 4) hk (by omega)
theorem e7_s5 {M : zM} {k : Nat} {v : Int32} (hk : k < 6) : fX7_setPart M (nI k) 5 v = some ((), zw M 27 0 (44 * k + 5 + 4) v) := e7_set (p := 5) hk (by omega)
theorem e7_s6 {M : zM} {k : Nat} {v : Int32} (hk : k < 6) : fX7_setPart M (nI k) 6 v = some ((), zw M 27 0 (44 * k + 6 + 4) v) := e7_set (p := 6) hk (by omega)
theorem e7_s7 {M : zM} {k : Nat} {v : Int32} (hk : k < 6) : fX7_setPart M (nI k) 7 v = some ((), zw M 27 0 (44 * k + 7 + 4) v) := e7_set (p := 7) hk (by omega)
theorem e7_s8 {M : zM} {k : Nat} {v : Int32} (hk : k < 6) : fX7_setPart M (nI k) 8 v = some ((), zw M 27 0 (44 * k + 8 + 4) v) := e7_set (p := 8) hk (by omega)
theorem e7_s9 {M : zM} {k : Nat} {v : Int32} (hk : k < 6) : fX7_setPart M (nI k) 9 v = some ((), zw M 27 0 (44 * k + 9 + 4) v) := e7_set (p := 9) hk (by omega)
theorem e7_s10 {M : zM} {k : Nat} {v : Int32} (hk : k < 6) : fX7_setPart M (nI k) 10 v = some ((), zw M 27 0 (44 * k + 10 + 4) v) := e7_set (p := 10) hk (by omega)
theorem e7_s11 {M : zM} {k : Nat} {v : Int32} (hk : k < 6) : fX7_setPart M (nI k) 11 v = some ((), zw M 27 0 (44 * k + 11 + 4) v) := e7_set (p := 11) hk (by omega)
theorem zrz {M : zM} {k p : Nat} {v : Int32} (hk : k < 6) (hp : p < 44) : zrA ((zw M 27 0 (44 * k + p + 4) v) 27 0) = zp (zrA (M 27 0)) k p v := by rw [zw_at, zru hk hp]
theorem zrzs {M : zM} {p : Nat} {v : Int32} (hp : p < 4) : zrA ((zw M 27 0 p v) 27 0) = zp (zrA (M 27 0)) 6 p v := by rw [zw_at, zrus hp]
/-- only the state changes -/
def zf27 (M M' : zM) : Prop := ∀ k i, k ≠ 27 → M' k i = M k i
theorem zf27.refl {M : zM} : zf27 M M := fun _ _ _ => rfl
theorem zf27.trans {M M1 M2 : zM} (h : zf27 M M1) (h2 : zf27 M1 M2) : zf27 M M2 := fun k i a => (h2 k i a).trans (h k i a)
theorem zf27.w {M : zM} {s : Nat} {v : Int32} : zf27 M (zw M 27 0 s v) := fun k i a => zw_ne (by omega)
theorem zf27.f7 {M M' : zM} (h : zf27 M M') : zf7 M M' := ⟨fun k i _ b _ => h k i b, fun s _ => by rw [h 26 0 (by omega)]⟩
theorem e7_flyOn {M : zM} {k : Nat} (hk : k < 6) : ∃ M', fX7_flyOn M (nI k) = some ((), M') ∧ zrA (M' 27 0) = zmv (zrA (M 27 0)) k ∧ zf27 M M' := by
  have i0 : (0 : Int32).toInt = 0 := rfl
  have i1 : (1 : Int32).toInt = 1 := rfl
  have i47 : (47 : Int32).toInt = 47 := rfl
  have i63 : (63 : Int32).toInt = 63 := rfl
  unfold fX7_flyOn
  simp only [e7_p1 hk, e7_p2 hk, e7_p3 hk, e7_p4 hk, e7_s1 hk, e7_s2 hk, e7_s3 hk, e7_s4 hk, zC_some, zL_eq, e7_within, zb_0, i0, i1, i47, i63]
  unfold zmv
  cases hb1 : zwin (zrA (M 27 0) k 1 + zrA (M 27 0) k 3) 0 63
  · cases hb2 : zwin (zrA (M 27 0) k 2 + zrA (M 27 0) k 4) 1 47
    · simp only [if_true]
      refine ⟨_, rfl, ?_, zf27.w.trans zf27.w⟩
      rw [zrz hk (by omega), zrz hk (by omega)]
      simp [zp]
    · simp only [Bool.true_eq_false, if_false, if_true]
      refine ⟨_, rfl, ?_, zf27.w.trans zf27.w⟩
      rw [zrz hk (by omega), zrz hk (by omega)]
      simp
  · cases hb2 : zwin (zrA (M 27 0) k 2 + zrA (M 27 0) k 4) 1 47
    · simp only [Bool.true_eq_false, if_false, if_true]
      refine ⟨_, rfl, ?_, zf27.w.trans zf27.w⟩
      rw [zrz hk (by omega), zrz hk (by omega)]
      simp [zp]
    · simp only [Bool.true_eq_false, if_false]
      refine ⟨_, rfl, ?_, zf27.w.trans zf27.w⟩
      rw [zrz hk (by omega), zrz hk (by omega)]
      simp
theorem zok.M0 {M : zM} (h : zok (zrA (M 27 0))) : M 27 0 (zN 0) = nI (zKn (zrA (M 27 0))) := by
  rw [show zN 0 = 0 from rfl, zrs (f := M 27 0) (p := 0) (by omega)]; exact h.1
theorem zmo_Kn {A : zA} {k : Nat} (hk : k < 6) : zKn (zmo k A) = zKn A := by
  unfold zmo; split
  · exact zmv_Kn hk
  · rfl
theorem l7_move {k : zM → Int32 → Option (Unit × zM)} : ∀ (c i n : Nat) (M : zM), i + c = zKn (zrA (M 27 0)) → c < n → zok (zrA (M 27 0)) →
    ∃ M', fX7_tick_L2 k n M (nI i) = k M' (nI (zKn (zrA (M 27 0)))) ∧ zrA (M' 27 0) = zf zmo c i (zrA (M 27 0)) ∧ zf27 M M' := by
  intro c
  induction c with
  | zero =>
    intro i n M hi hn hok
    obtain ⟨n, rfl⟩ : ∃ q, n = q + 1 := ⟨n - 1, by omega⟩
    have hi' : i = zKn (zrA (M 27 0)) := by omega
    unfold fX7_tick_L2
    have hc : M 27 0 (zN 0) ≤ nI i := by rw [hok.M0, hi']; exact nI_le (Nat.le_refl _) (by have := hok.2.1; omega)
    simp only [zI_eq (show zix 0 268 = true by decide), if_pos hc]
    rw [← hi']
    exact ⟨M, rfl, rfl, zf27.refl⟩
  | succ c ih =>
    intro i n M hi hn hok
    obtain ⟨n, rfl⟩ : ∃ q, n = q + 1 := ⟨n - 1, by omega⟩
    have hK := hok.2.1
    have hi6 : i < 6 := by omega
    unfold fX7_tick_L2
    have hc : ¬ M 27 0 (zN 0) ≤ nI i := by rw [hok.M0]; exact nI_ge (by omega) (by omega)
    simp only [zI_eq (show zix 0 268 = true by decide), if_neg hc, zL_eq, nI_1]
    rw [e7_fly (show i < zKn (zrA (M 27 0)) by omega) hK, zC_some]
    simp only [zb_0]
    show ∃ M' : zM, _ ∧ zrA (M' 27 0) = zf zmo c (i + 1) (zmo i (zrA (M 27 0))) ∧ _
    cases hf : zfly (zrA (M 27 0)) i
    · simp only [if_true]
      obtain ⟨M2, e2, c2, f2⟩ := ih (i + 1) n M (by omega) (by omega) hok
      exact ⟨M2, e2, by rw [c2]; unfold zmo; rw [hf]; simp, f2⟩
    · simp only [Bool.true_eq_false, if_false]
      obtain ⟨M1, e1, c1, f1⟩ := e7_flyOn (M := M) hi6
      rw [e1, zC_some]
      have a1 : zrA (M1 27 0) = zmo i (zrA (M 27 0)) := by rw [c1]; unfold zmo; rw [hf]; simp
      have aK : zKn (zrA (M1 27 0)) = zKn (zrA (M 27 0)) := by rw [a1, zmo_Kn hi6]
      obtain ⟨M2, e2, c2, f2⟩ := ih (i + 1) n M1 (by omega) (by omega) (by rw [a1]; exact zmo_ok hok)
      exact ⟨M2, by rw [e2, aK], by rw [c2, a1], f1.trans f2⟩
/-! the greatest wear -/
def zgw (A : zA) (k : Nat) : Int32 := zf (fun p m => if A k (12 + p) ≤ m then m else A k (12 + p)) 32 0 0
theorem l7_great {k0 : Nat} (hk : k0 < 6) {k : zM → Int32 → Int32 → Option (Int32 × zM)} {M : zM} : ∀ (c p n : Nat) (m : Int32), p + c = 32 → c < n →
    fX7_greatestWear_L4 k (nI k0) n M m (nI p) = k M (zf (fun p m => if zrA (M 27 0) k0 (12 + p) ≤ m then m else zrA (M 27 0) k0 (12 + p)) c p m) (nI 32) := by
  intro c
  induction c with
  | zero =>
    intro p n m hp hn
    obtain ⟨n, rfl⟩ : ∃ q, n = q + 1 := ⟨n - 1, by omega⟩
    obtain rfl : p = 32 := by omega
    rfl
  | succ c ih =>
    intro p n m hp hn
    obtain ⟨n, rfl⟩ : ∃ q, n = q + 1 := ⟨n - 1, by omega⟩
    unfold fX7_greatestWear_L4
    have hc : ¬ (32 : Int32) ≤ nI p := nI_ge (a := p) (b := 32) (by omega) (by omega)
    simp only [if_neg hc, z12, e7_part hk (show 12 + p < 44 by omega), zC_some, zL_eq, nI_1]
    show _ = k M (zf _ c (p + 1) (if zrA (M 27 0) k0 (12 + p) ≤ m then m else zrA (M 27 0) k0 (12 + p))) (nI 32)
    by_cases h : zrA (M 27 0) k0 (12 + p) ≤ m
    · rw [if_pos h, if_pos h]; exact ih (p + 1) n m (by omega) (by omega)
    · rw [if_neg h, if_neg h]; exact ih (p + 1) n _ (by omega) (by omega)
theorem e7_great {M : zM} {k : Nat} (hk : k < 6) : fX7_greatestWear M (nI k) = some (zgw (zrA (M 27 0)) k, M) := by
  unfold fX7_greatestWear zgw
  exact l7_great hk (k := fun M27 v28 v29 => some (v28, M27)) 32 0 2000 0 (by omega) (by omega)
/-! cutting through -/
def zcn (A : zA) : Nat → Int32 → Int32 := fun k m => m ||| (if zfly A k && decide ((A k 6).toInt ≤ (zgw A k).toInt) then zbit k else 0)
def zf26 (M M' : zM) : Prop := (∀ k i, k ≠ 26 → M' k i = M k i) ∧ ∀ s, ¬ (9 ≤ s ∧ s ≤ 13) → M' 26 0 s = M 26 0 s
theorem zf26.refl {M : zM} : zf26 M M := ⟨fun _ _ _ => rfl, fun _ _ => rfl⟩
theorem zf26.trans {M M1 M2 : zM} (h : zf26 M M1) (h2 : zf26 M1 M2) : zf26 M M2 := ⟨fun k i a => (h2.1 k i a).trans (h.1 k i a), fun s hs => (h2.2 s hs).trans (h.2 s hs)⟩
theorem zf26.w {M : zM} {s : Nat} {v : Int32} (hs : 9 ≤ s ∧ s ≤ 13) : zf26 M (zw M 26 0 s v) := ⟨fun k i a => zw_ne (by omega), fun s' h => by rw [zw_at]; unfold upd; rw [if_neg (by omega)]⟩
theorem zf26.f7 {M M' : zM} (h : zf26 M M') : zf7 M M' := ⟨fun k i a _ _ => h.1 k i a, h.2⟩
theorem l7_cuts {K : Nat} {k : zM → Int32 → Option (Unit × zM)} : ∀ (c i n : Nat) (M : zM), i + c = K → c < n → zKn (zrA (M 27 0)) = K → K ≤ 6 → M 27 0 (zN 0) = nI K →
    ∃ M', fX7_cutThrough_L12 k n M (nI i) = k M' (nI K) ∧ M' 26 0 12 = zf (zcn (zrA (M 27 0))) c i (M 26 0 12) ∧ M' 26 0 13 = M 26 0 13 ∧ zf26 M M' := by
  intro c
  induction c with
  | zero =>
    intro i n M hi hn hK h6 h0
    obtain ⟨n, rfl⟩ : ∃ q, n = q + 1 := ⟨n - 1, by omega⟩
    obtain rfl : i = K := by omega
    unfold fX7_cutThrough_L12
    have hc : M 27 0 (zN 0) ≤ nI i := by rw [h0]; exact nI_le (Nat.le_refl _) (by omega)
    simp only [zI_eq (show zix 0 268 = true by decide), if_pos hc]
    exact ⟨M, rfl, rfl, rfl, zf26.refl⟩
  | succ c ih =>
    intro i n M hi hn hK h6 h0
    obtain ⟨n, rfl⟩ : ∃ q, n = q + 1 := ⟨n - 1, by omega⟩
    have hi6 : i < 6 := by omega
    unfold fX7_cutThrough_L12
    have hc : ¬ M 27 0 (zN 0) ≤ nI i := by rw [h0]; exact nI_ge (by omega) (by omega)
    simp only [zI_eq (show zix 0 268 = true by decide), if_neg hc, zL_eq, nI_1]
    rw [e7_fly (show i < zKn (zrA (M 27 0)) by omega) (by omega), zC_some]
    simp only [zb_0, e7_great hi6, zC_some, e7_p6 hi6]
    show ∃ M' : zM, _ ∧ M' 26 0 12 = zf (zcn (zrA (M 27 0))) c (i + 1) (zcn (zrA (M 27 0)) i (M 26 0 12)) ∧ _
    have step : ∀ v, zcn (zrA (M 27 0)) i (M 26 0 12) = M 26 0 12 ||| v → ∃ M', fX7_cutThrough_L12 k n (zw M 26 0 12 (M 26 0 12 ||| v)) (nI (i + 1)) = k M' (nI K) ∧ M' 26 0 12 = zf (zcn (zrA (M 27 0))) c (i + 1) (zcn (zrA (M 27 0)) i (M 26 0 12)) ∧ M' 26 0 13 = M 26 0 13 ∧ zf26 M M' := by
      intro v hv
      have e27 : (zw M 26 0 12 (M 26 0 12 ||| v)) 27 0 = M 27 0 := zw_ne (by omega)
      obtain ⟨M2, e2, c2, d2, f2⟩ := ih (i + 1) n (zw M 26 0 12 (M 26 0 12 ||| v)) (by omega) (by omega) (by rw [e27]; exact hK) h6 (by rw [e27]; exact h0)
      refine ⟨M2, e2, ?_, ?_, (zf26.w (by omega)).trans f2⟩
      · rw [c2, e27, hv, zw_at]; unfold upd; rw [if_pos rfl]
      · rw [d2, zw_at]; unfold upd; rw [if_neg (by decide)]
    cases hf : zfly (zrA (M 27 0)) i
    · simp only [if_true]
      exact step 0 (by unfold zcn; rw [hf]; simp)
    · simp only [Bool.true_eq_false, if_false, zlt_i]
      by_cases hg : (zgw (zrA (M 27 0)) i).toInt < (zrA (M 27 0) i 6).toInt
      · rw [if_pos hg]
        exact step 0 (by unfold zcn; rw [hf, decide_eq_false (by omega)]; simp)
      · rw [if_neg hg]
        exact step (zbit i) (by unfold zcn; rw [hf, decide_eq_true (by omega)]; simp)
def zq2 (C : zA) (m : Int32) (k : Nat) : Nat → zA × Int32 → zA × Int32 := fun o s => if zcr C o k && zbq m o && zht C s.1 o k then (zp s.1 k 7 (s.1 k 7 + 1), s.2 ||| zbit k) else s
theorem e7_worn {M : zM} {k p : Nat} (hk : k < 6) (hp : p < 32) : fX7_isWornAt M (nI k) (nI p) = some (zb (decide ((zrA (M 27 0) k 6).toInt ≤ (zrA (M 27 0) k (12 + p)).toInt)), M) := by
  unfold fX7_isWornAt
  simp only [z12, e7_part hk (show 12 + p < 44 by omega), e7_p6 hk, zC_some, zlt_i, zb]
  by_cases c : (zrA (M 27 0) k (12 + p)).toInt < (zrA (M 27 0) k 6).toInt
  · simp [c, show ¬ (zrA (M 27 0) k 6).toInt ≤ (zrA (M 27 0) k (12 + p)).toInt by omega]
  · simp [c, show (zrA (M 27 0) k 6).toInt ≤ (zrA (M 27 0) k (12 + p)).toInt by omega]
def zplc (M : zM) (C : zA) (K : Nat) : Prop := ∀ i o, i < K → o < K → M 33 0 (6 * i + o) = if zcr C i o then nI (zpl C i o) else -6
/-- state and the mask of those who got points -/
def zfp (M M' : zM) : Prop := (∀ k i, k ≠ 26 → k ≠ 27 → M' k i = M k i) ∧ ∀ s, s ≠ 13 → M' 26 0 s = M 26 0 s
theorem zfp.refl {M : zM} : zfp M M := ⟨fun _ _ _ _ => rfl, fun _ _ => rfl⟩
theorem zfp.trans {M M1 M2 : zM} (h : zfp M M1) (h2 : zfp M1 M2) : zfp M M2 := ⟨fun k i a b => (h2.1 k i a b).trans (h.1 k i a b), fun s hs => (h2.2 s hs).trans (h.2 s hs)⟩
theorem zfp.f7 {M M' : zM} (h : zfp M M') : zf7 M M' := ⟨fun k i a b _ => h.1 k i a b, fun s hs => h.2 s (by omega)⟩
theorem l7_pin {C : zA} {k0 K : Nat} (hK6 : K ≤ 6) (hk : k0 < K) {k : zM → Int32 → Option (Unit × zM)} : ∀ (c o n : Nat) (M : zM), o + c = K → c < n → M 27 0 (zN 0) = nI K → zplc M C K →
    ∃ M', fX7_cutThrough_L81 k (nI k0) n M (nI o) = k M' (nI K) ∧ (zrA (M' 27 0), M' 26 0 13) = zf (zq2 C (M 26 0 12) k0) c o (zrA (M 27 0), M 26 0 13) ∧ M' 27 0 (zN 0) = nI K ∧ zfp M M' := by
  intro c
  induction c with
  | zero =>
    intro o n M ho hn h0 hp
    obtain ⟨n, rfl⟩ : ∃ q, n = q + 1 := ⟨n - 1, by omega⟩
    obtain rfl : o = K := by omega
    unfold fX7_cutThrough_L81
    have hc : M 27 0 (zN 0) ≤ nI o := by rw [h0]; exact nI_le (Nat.le_refl _) (by omega)
    simp only [zI_eq (show zix 0 268 = true by decide), if_pos hc]
    exact ⟨M, rfl, rfl, h0, zfp.refl⟩
  | succ c ih =>
    intro o n M ho hn h0 hp
    obtain ⟨n, rfl⟩ : ∃ q, n = q + 1 := ⟨n - 1, by omega⟩
    have ho6 : o < 6 := by omega
    have hk6 : k0 < 6 := by omega
    unfold fX7_cutThrough_L81
    have hc : ¬ M 27 0 (zN 0) ≤ nI o := by rw [h0]; exact nI_ge (by omega) (by omega)
    have hx : zix (nI (6 * o + k0)) 36 = true := zix_nI (by omega) (by omega)
    have hn2 : zN (nI (6 * o + k0)) = 6 * o + k0 := zN_nI (by omega)
    simp only [zI_eq (show zix 0 268 = true by decide), if_neg hc, z6ix, zI_eq hx, hn2, zL_eq, nI_1]
    rw [hp o k0 (by omega) hk]
    show ∃ M' : zM, _ ∧ (zrA (M' 27 0), M' 26 0 13) = zf (zq2 C (M 26 0 12) k0) c (o + 1) (zq2 C (M 26 0 12) k0 o (zrA (M 27 0), M 26 0 13)) ∧ _
    have same : zq2 C (M 26 0 12) k0 o (zrA (M 27 0), M 26 0 13) = (zrA (M 27 0), M 26 0 13) → ∃ M', fX7_cutThrough_L81 k (nI k0) n M (nI (o + 1)) = k M' (nI K) ∧ (zrA (M' 27 0), M' 26 0 13) = zf (zq2 C (M 26 0 12) k0) c (o + 1) (zq2 C (M 26 0 12) k0 o (zrA (M 27 0), M 26 0 13)) ∧ M' 27 0 (zN 0) = nI K ∧ zfp M M' := by
      intro hq
      rw [hq]
      exact ih (o + 1) n M (by omega) (by omega) h0 hp
    cases hcr : zcr C o k0
    · simp only [Bool.false_eq_true, if_false, if_true]
      exact same (by unfold zq2; rw [hcr]; simp)
    · have hpl := zpl_lt hcr
      have hne6 : ¬ nI (zpl C o k0) = -6 := by
        intro q
        have q2 := congrArg Int32.toInt q
        rw [nI_toInt (by omega)] at q2
        have : (-6 : Int32).toInt = -6 := rfl
        omega
      simp only [if_true, if_neg hne6]
      by_cases hb : ((M 26 0 12 >>> (nI o &&& 31)) &&& 1) = 1
      · rw [if_pos hb]
        have hbq : zbq (M 26 0 12) o = true := decide_eq_true hb
        rw [e7_worn ho6 hpl, zC_some]
        simp only [zb_0]
        have hst : zht C (zrA (M 27 0)) o k0 = decide ((zrA (M 27 0) o 6).toInt ≤ (zrA (M 27 0) o (12 + zpl C o k0)).toInt) := rfl
        rw [← hst]
        cases hh : zht C (zrA (M 27 0)) o k0
        · simp only [if_true]
          exact same (by unfold zq2; dsimp only; rw [hcr, hbq, hh]; simp)
        · simp only [Bool.true_eq_false, if_false, e7_p7 hk6, zC_some, e7_s7 hk6]
          generalize hM1 : zw (zw M 27 0 (44 * k0 + 7 + 4) (zrA (M 27 0) k0 7 + 1)) 26 0 13 ((zw M 27 0 (44 * k0 + 7 + 4) (zrA (M 27 0) k0 7 + 1)) 26 0 13 ||| 1 <<< (nI k0 &&& 31)) = M1
          have f1 : zfp M M1 := ⟨fun k i a b => by rw [← hM1, zw_ne (by omega), zw_ne (by omega)], fun s hs => by rw [← hM1, zw_at]; unfold upd; rw [if_neg hs, zw_ne (by omega)]⟩
          have a27 : M1 27 0 = (zw M 27 0 (44 * k0 + 7 + 4) (zrA (M 27 0) k0 7 + 1)) 27 0 := by rw [← hM1, zw_ne (by omega)]
          have a1 : zrA (M1 27 0) = zp (zrA (M 27 0)) k0 7 (zrA (M 27 0) k0 7 + 1) := by rw [a27, zrz hk6 (by omega)]
          have a2 : M1 26 0 13 = M 26 0 13 ||| zbit k0 := by rw [← hM1, zw_at]; unfold upd; rw [if_pos rfl, zw_ne (by omega)]; rfl
          have a3 : M1 26 0 12 = M 26 0 12 := f1.2 12 (by omega)
          have a4 : M1 27 0 (zN 0) = nI K := by
            rw [a27, zw_at]; unfold upd; rw [if_neg (by rw [show zN 0 = 0 from rfl]; omega)]; exact h0
          obtain ⟨M2, e2, c2, z2, f2⟩ := ih (o + 1) n M1 (by omega) (by omega) a4 (fun i o h1 h2 => by rw [f1.1 33 0 (by omega) (by omega)]; exact hp i o h1 h2)
          refine ⟨M2, e2, ?_, z2, f1.trans f2⟩
          rw [c2, a3, a1, a2]
          congr 1
          unfold zq2; dsimp only; rw [hcr, hbq, hh]; simp
      · rw [if_neg hb]
        have hbq : zbq (M 26 0 12) o = false := decide_eq_false hb
        exact same (by unfold zq2; dsimp only; rw [hbq]; simp)
def zq3 (C : zA) (m : Int32) (K : Nat) : Nat → zA × Int32 → zA × Int32 := fun k s => zf (zq2 C m k) K 0 s
theorem l7_pout {C : zA} {K : Nat} (hK6 : K ≤ 6) {k : zM → Int32 → Option (Unit × zM)} : ∀ (c i n : Nat) (M : zM), i + c = K → c < n → M 27 0 (zN 0) = nI K → zplc M C K →
    ∃ M', fX7_cutThrough_L69 k n M (nI i) = k M' (nI K) ∧ (zrA (M' 27 0), M' 26 0 13) = zf (zq3 C (M 26 0 12) K) c i (zrA (M 27 0), M 26 0 13) ∧ M' 27 0 (zN 0) = nI K ∧ zfp M M' := by
  intro c
  induction c with
  | zero =>
    intro i n M hi hn h0 hp
    obtain ⟨n, rfl⟩ : ∃ q, n = q + 1 := ⟨n - 1, by omega⟩
    obtain rfl : i = K := by omega
    unfold fX7_cutThrough_L69
    have hc : M 27 0 (zN 0) ≤ nI i := by rw [h0]; exact nI_le (Nat.le_refl _) (by omega)
    simp only [zI_eq (show zix 0 268 = true by decide), if_pos hc]
    exact ⟨M, rfl, rfl, h0, zfp.refl⟩
  | succ c ih =>
    intro i n M hi hn h0 hp
    obtain ⟨n, rfl⟩ : ∃ q, n = q + 1 := ⟨n - 1, by omega⟩
    unfold fX7_cutThrough_L69
    have hc : ¬ M 27 0 (zN 0) ≤ nI i := by rw [h0]; exact nI_ge (by omega) (by omega)
    simp only [zI_eq (show zix 0 268 = true by decide), if_neg hc, zL_eq, nI_1]
    obtain ⟨M1, e1, c1, z1, f1⟩ := l7_pin (C := C) hK6 (show i < K by omega) (k := fun M48 v49 => fX7_cutThrough_L69 k n M48 (nI (i + 1))) K 0 2000 M (by omega) (by omega) h0 hp
    obtain ⟨M2, e2, c2, z2, f2⟩ := ih (i + 1) n M1 (by omega) (by omega) z1 (fun i o h1 h2 => by rw [f1.1 33 0 (by omega) (by omega)]; exact hp i o h1 h2)
    refine ⟨M2, e1.trans e2, ?_, z2, f1.trans f2⟩
    rw [c2, c1, f1.2 12 (by omega)]; rfl
theorem l7_cutk {K : Nat} (hK6 : K ≤ 6) {k : zM → Int32 → Option (Unit × zM)} : ∀ (c i n : Nat) (M : zM), i + c = K → c < n → M 27 0 (zN 0) = nI K →
    ∃ M', fX7_cutThrough_L172 k n M (nI i) = k M' (nI K) ∧ zrA (M' 27 0) = zf (zcu (M 26 0 12)) c i (zrA (M 27 0)) ∧ zf27 M M' := by
  intro c
  induction c with
  | zero =>
    intro i n M hi hn h0
    obtain ⟨n, rfl⟩ : ∃ q, n = q + 1 := ⟨n - 1, by omega⟩
    obtain rfl : i = K := by omega
    unfold fX7_cutThrough_L172
    have hc : M 27 0 (zN 0) ≤ nI i := by rw [h0]; exact nI_le (Nat.le_refl _) (by omega)
    simp only [zI_eq (show zix 0 268 = true by decide), if_pos hc]
    exact ⟨M, rfl, rfl, zf27.refl⟩
  | succ c ih =>
    intro i n M hi hn h0
    obtain ⟨n, rfl⟩ : ∃ q, n = q + 1 := ⟨n - 1, by omega⟩
    have hi6 : i < 6 := by omega
    unfold fX7_cutThrough_L172
    have hc : ¬ M 27 0 (zN 0) ≤ nI i := by rw [h0]; exact nI_ge (by omega) (by omega)
    simp only [zI_eq (show zix 0 268 = true by decide), if_neg hc, zL_eq, nI_1]
    show ∃ M' : zM, _ ∧ zrA (M' 27 0) = zf (zcu (M 26 0 12)) c (i + 1) (zcu (M 26 0 12) i (zrA (M 27 0))) ∧ _
    by_cases hb : ((M 26 0 12 >>> (nI i &&& 31)) &&& 1) = 1
    · rw [if_pos hb]
      simp only [e7_s8 hi6, zC_some, zI_eq (show zix 3 268 = true by decide), show zN 3 = 3 from rfl]
      generalize hM1 : zw (zw M 27 0 (44 * i + 8 + 4) 1) 27 0 3 ((zw M 27 0 (44 * i + 8 + 4) 1) 27 0 3 + 1) = M1
      have f1 : zf27 M M1 := by rw [← hM1]; exact zf27.w.trans zf27.w
      have a1 : zrA (M1 27 0) = zcu (M 26 0 12) i (zrA (M 27 0)) := by
        rw [← hM1, zrzs (by omega), zrz hi6 (by omega)]
        unfold zcu; rw [show zbq (M 26 0 12) i = true from decide_eq_true hb, if_pos rfl]
        congr 1
      have a4 : M1 27 0 (zN 0) = nI K := by
        rw [← hM1, zw_at]; unfold upd; rw [if_neg (by decide), zw_at]; unfold upd; rw [if_neg (by rw [show zN 0 = 0 from rfl]; omega)]; exact h0
      obtain ⟨M2, e2, c2, f2⟩ := ih (i + 1) n M1 (by omega) (by omega) a4
      exact ⟨M2, e2, by rw [c2, a1, f1 26 0 (by omega)], f1.trans f2⟩
    · rw [if_neg hb]
      obtain ⟨M2, e2, c2, f2⟩ := ih (i + 1) n M (by omega) (by omega) h0
      exact ⟨M2, e2, by rw [c2]; unfold zcu; rw [show zbq (M 26 0 12) i = false from decide_eq_false hb]; simp, f2⟩
