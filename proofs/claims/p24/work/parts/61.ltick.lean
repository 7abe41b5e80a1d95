/-! ===== a tick of the law's rows ===== -/
def zfm (b : Nat) (M M' : zM) : Prop := ∀ k i, ¬ (b ≤ k ∧ k ≤ b + 3) → ¬ (k = 30 ∧ i = 0) → M' k i = M k i
theorem zfm.refl {b : Nat} {M : zM} : zfm b M M := fun _ _ _ _ => rfl
theorem zfm.trans {b : Nat} {M M1 M2 : zM} (h : zfm b M M1) (h2 : zfm b M1 M2) : zfm b M M2 := fun k i a c => (h2 k i a c).trans (h k i a c)
theorem zfb.m {b : Nat} {M M' : zM} (h : zfb b M M') : zfm b M M' := fun k i a _ => h k i a
theorem zLA_me {b : Nat} {M : zM} {s : Nat} {v : Int32} (hb : b = 26 ∨ b = 31) : zLA b (zw M 30 0 s v) = zLA b M := zLA_skip (by omega)
theorem zlK {b : Nat} {M : zM} {A : zA} (hA : zLA b M = A) (h : A 6 0 = nI (zKn A)) : M b 0 (zN 0) = nI (zKn A) := by
  show M b 0 0 = _
  rw [zls6 (b := b) (M := M) (by omega), hA]; exact h
theorem eL_J82 {b : Nat} {rec k : zM → Int32 → Option (Int32 × zM)} {M : zM} {A : zA} {i : Nat} (hA : zLA b M = A) (hi : i < 4) :
    ∃ M', fL_tick_J82 rec k b (b + 1) (b + 2) (b + 3) 30 M (nI i) (12 * nI i) = rec M' (nI (i + 1)) ∧ zLA b M' = (if zwin (A i 2 + A i 4) 1 47 then zp A i 2 (A i 2 + A i 4) else zp A i 4 (-(A i 4))) ∧ zfb b M M' := by
  have r2 : M (b + 1) 0 (12 * i + 2) = A i 2 := by rw [zla (b := b) (M := M) hi (by omega), hA]
  have r4 : M (b + 1) 0 (12 * i + 4) = A i 4 := by rw [zla (b := b) (M := M) hi (by omega), hA]
  have i1 : (1 : Int32).toInt = 1 := rfl
  have i47 : (47 : Int32).toInt = 47 := rfl
  unfold fL_tick_J82
  rw [zx2, zx4]
  simp only [zxI hi (show 2 < 12 by omega), zxI hi (show 4 < 12 by omega), zxN hi (show 2 < 12 by omega), zxN hi (show 4 < 12 by omega), r2, r4, zL_eq]
  unfold fL_tick_J134 zwin
  simp only [zL_eq, nI_1]
  by_cases c1 : 1 ≤ (A i 2 + A i 4).toInt
  · rw [if_neg (by rw [zlt_i, i1]; omega)]
    by_cases c2 : (A i 2 + A i 4).toInt ≤ 47
    · rw [if_pos (by rw [zle_i, i47]; exact c2), decide_eq_true c1, decide_eq_true c2]
      exact ⟨_, rfl, by rw [zlc hi (by omega), hA]; rfl, zfb.w (by omega)⟩
    · rw [if_neg (by rw [zle_i, i47]; exact c2), decide_eq_true c1, decide_eq_false c2]
      exact ⟨_, rfl, by rw [zlc hi (by omega), hA]; rfl, zfb.w (by omega)⟩
  · rw [if_pos (by rw [zlt_i, i1]; omega), decide_eq_false c1]
    exact ⟨_, rfl, by rw [zlc hi (by omega), hA]; rfl, zfb.w (by omega)⟩
theorem lL_mv {b K : Nat} (hK4 : K ≤ 4) {k : zM → Int32 → Option (Int32 × zM)} : ∀ (c i n : Nat) (M : zM), i + c = K → c < n → zok (zLA b M) → zKn (zLA b M) = K →
    ∃ M', fL_tick_L3 k b (b + 1) (b + 2) (b + 3) 30 n M (nI i) = k M' (nI K) ∧ zLA b M' = zf zmo c i (zLA b M) ∧ zfb b M M' := by
  intro c
  induction c with
  | zero =>
    intro i n M hi hn h hK
    obtain ⟨n, rfl⟩ : ∃ q, n = q + 1 := ⟨n - 1, by omega⟩
    obtain rfl : i = K := by omega
    refine ⟨M, ?_, rfl, zfb.refl⟩
    unfold fL_tick_L3
    rw [zI_eq (by decide), zlK (b := b) (M := M) rfl h.1, hK, if_pos (by rw [zle (by omega) (by omega)]; omega)]
  | succ c ih =>
    intro i n M hi hn h hK
    obtain ⟨n, rfl⟩ : ∃ q, n = q + 1 := ⟨n - 1, by omega⟩
    have hi4 : i < 4 := by omega
    obtain ⟨A, hA⟩ : ∃ A, A = zLA b M := ⟨_, rfl⟩
    have rk : ∀ p, p < 12 → M (b + 1) 0 (12 * i + p) = A i p := fun p hp => by rw [zla (b := b) (M := M) hi4 hp, hA]
    have hf : zfly A i = decide (A i 8 = 0) := zfly_is (by rw [hA]; omega)
    have h0 : (0 : Int32).toInt = 0 := rfl
    have i63 : (63 : Int32).toInt = 63 := rfl
    unfold fL_tick_L3
    rw [zI_eq (by decide), zlK (b := b) (M := M) rfl h.1, hK, if_neg (by rw [zle (by omega) (by omega)]; omega), zL_eq, zx8, zxI hi4 (by omega), zxN hi4 (by omega), rk 8 (by omega)]
    have next : ∀ M1, zLA b M1 = zmo i A → zfb b M M1 → ∃ M', fL_tick_L3 k b (b + 1) (b + 2) (b + 3) 30 n M1 (nI (i + 1)) = k M' (nI K) ∧ zLA b M' = zf zmo (c + 1) i (zLA b M) ∧ zfb b M M' := by
      intro M1 h1 f1
      obtain ⟨M2, e2, c2, f2⟩ := ih (i + 1) n M1 (by omega) (by omega) (by rw [h1, hA]; exact zmo_ok h) (by rw [h1, hA, zmo_Kn (by omega)]; exact hK)
      refine ⟨M2, e2, ?_, f1.trans f2⟩
      rw [c2, h1, ← hA]; rfl
    by_cases c8 : A i 8 = 0
    · have hf1 : zfly A i = true := by rw [hf]; exact decide_eq_true c8
      have hmo : zmo i A = zmv A i := by unfold zmo; rw [hf1, if_pos rfl]
      have fin : ∀ M1 A1, zLA b M1 = A1 → A1 = (if zwin (A i 1 + A i 3) 0 63 then zp A i 1 (A i 1 + A i 3) else zp A i 3 (-(A i 3))) → zfb b M M1 → ∃ M', fL_tick_J82 (fL_tick_L3 k b (b + 1) (b + 2) (b + 3) 30 n) k b (b + 1) (b + 2) (b + 3) 30 M1 (nI i) (12 * nI i) = k M' (nI K) ∧ zLA b M' = zf zmo (c + 1) i (zLA b M) ∧ zfb b M M' := by
        intro M1 A1 a1 a2 f1
        obtain ⟨M2, e2, c2, f2⟩ := eL_J82 (rec := fL_tick_L3 k b (b + 1) (b + 2) (b + 3) 30 n) (k := k) a1 hi4
        rw [e2]
        refine next M2 ?_ (f1.trans f2)
        rw [c2, hmo]
        have q2 : A1 i 2 = A i 2 := by rw [a2]; split <;> exact zp_np (by omega)
        have q4 : A1 i 4 = A i 4 := by rw [a2]; split <;> exact zp_np (by omega)
        unfold zmv
        rw [q2, q4, a2]
      rw [if_pos c8, zx1, zx3]
      simp only [zxI hi4 (show 1 < 12 by omega), zxI hi4 (show 3 < 12 by omega), zxN hi4 (show 1 < 12 by omega), zxN hi4 (show 3 < 12 by omega), rk 1 (by omega), rk 3 (by omega), zL_eq]
      by_cases c1 : 0 ≤ (A i 1 + A i 3).toInt
      · rw [if_neg (by rw [zlt_i, h0]; omega)]
        by_cases c2 : (A i 1 + A i 3).toInt ≤ 63
        · rw [if_pos (by rw [zle_i, i63]; exact c2)]
          refine fin _ _ rfl ?_ (zfb.w (by omega))
          rw [zlc hi4 (by omega), ← hA]; unfold zwin; rw [decide_eq_true c1, decide_eq_true c2]; rfl
        · rw [if_neg (by rw [zle_i, i63]; exact c2)]
          refine fin _ _ rfl ?_ (zfb.w (by omega))
          rw [zlc hi4 (by omega), ← hA]; unfold zwin; rw [decide_eq_true c1, decide_eq_false c2]; rfl
      · rw [if_pos (by rw [zlt_i, h0]; omega)]
        refine fin _ _ rfl ?_ (zfb.w (by omega))
        rw [zlc hi4 (by omega), ← hA]; unfold zwin; rw [decide_eq_false c1]; rfl
    · rw [if_neg c8]
      unfold fL_tick_J134
      rw [zL_eq, nI_1]
      refine next M ?_ zfb.refl
      unfold zmo; rw [hf, decide_eq_false c8, if_neg (by decide), hA]
theorem zsa.pa {C A : zA} (h : zsa C A) {k o : Nat} (hk : k < 6) (ho : o < 6) : zpa A k o = zpa C k o := by
  unfold zpa; rw [h.cr hk ho, h.pl hk ho, h.st hk ho]
theorem zpa_neg {C : zA} {k o : Nat} : zpa C k o < 0 ↔ zcr C k o = false := by
  unfold zpa
  cases h : zcr C k o with
  | false => simp only [Bool.false_eq_true, if_false]; exact ⟨fun _ => trivial, fun _ => by decide⟩
  | true =>
    have := zpl_lt h
    simp only [if_true]
    refine ⟨fun q => absurd q (nI_pos ?_), fun q => by cases q⟩
    split <;> omega
theorem zpa_yes {C : zA} {k o : Nat} (h : zcr C k o = true) : zir (zpa C k o) 64 = nI (zpl C k o) ∧ (zpa C k o ≤ 63 ↔ zst C k o = false) ∧ zpa C k o / 64 = zb (zst C k o) := by
  have hl := zpl_lt h
  unfold zpa
  rw [if_pos h]
  cases hs : zst C k o with
  | false =>
    rw [if_neg (by decide), Nat.add_zero]
    refine ⟨?_, ?_, ?_⟩
    · rw [show (64 : Int32) = nI 64 from rfl, zi_rem (by omega) (by omega) (by omega), Nat.mod_eq_of_lt (by omega)]
    · rw [show (63 : Int32) = nI 63 from rfl, zle (by omega) (by omega)]
      exact ⟨fun _ => rfl, fun _ => by omega⟩
    · rw [show (64 : Int32) = nI 64 from rfl, pk_div (by omega) (by omega) (by omega), Nat.div_eq_of_lt (by omega)]; rfl
  | true =>
    rw [if_pos rfl]
    refine ⟨?_, ?_, ?_⟩
    · rw [show (64 : Int32) = nI 64 from rfl, zi_rem (by omega) (by omega) (by omega), show (zpl C k o + 64) % 64 = zpl C k o by omega]
    · rw [show (63 : Int32) = nI 63 from rfl, zle (by omega) (by omega)]
      exact ⟨fun q => by omega, fun q => by cases q⟩
    · rw [show (64 : Int32) = nI 64 from rfl, pk_div (by omega) (by omega) (by omega), show (zpl C k o + 64) / 64 = 1 by omega]; rfl
theorem lL_wi {b K : Nat} (hb : b = 26 ∨ b = 31) {C : zA} (hC : zok C) (hKC : zKn C = K) (hK4 : K ≤ 4) {i : Nat} (hi : i < K) {k : zM → Int32 → Option (Int32 × zM)} : ∀ (c o n : Nat) (M : zM), o + c = K → c < n → zsa C (zLA b M) →
    ∃ M', fL_tick_L154 k b (b + 1) (b + 2) (b + 3) 30 (nI i) n M (nI o) = k M' (nI K) ∧ zLA b M' = zf (zria C i) c o (zLA b M) ∧ zsa C (zLA b M') ∧ (∀ o', o ≤ o' → o' < K → M' 30 0 (4 * i + o') = zpa C i o') ∧ (∀ s, (s < 4 * i + o ∨ 4 * i + K ≤ s) → M' 30 0 s = M 30 0 s) ∧ zfm b M M' := by
  intro c
  induction c with
  | zero =>
    intro o n M ho hn hs
    obtain ⟨n, rfl⟩ : ∃ q, n = q + 1 := ⟨n - 1, by omega⟩
    obtain rfl : o = K := by omega
    refine ⟨M, ?_, rfl, hs, fun o' h1 h2 => by omega, fun _ _ => rfl, zfm.refl⟩
    unfold fL_tick_L154
    rw [zI_eq (by decide), zlK (b := b) (M := M) rfl (by rw [hs.Kn, hs 6 0 (by omega)]; exact hC.1), hs.Kn, hKC, if_pos (by rw [zle (by omega) (by omega)]; omega)]
  | succ c ih =>
    intro o n M ho hn hs
    obtain ⟨n, rfl⟩ : ∃ q, n = q + 1 := ⟨n - 1, by omega⟩
    have hi4 : i < 4 := by omega
    have ho4 : o < 4 := by omega
    unfold fL_tick_L154
    rw [zI_eq (by decide), zlK (b := b) (M := M) rfl (by rw [hs.Kn, hs 6 0 (by omega)]; exact hC.1), hs.Kn, hKC, if_neg (by rw [zle (by omega) (by omega)]; omega)]
    -- what follows once the place stands
    have next : ∀ M1, zLA b M1 = zria C i o (zLA b M) → M1 30 0 (4 * i + o) = zpa C i o → (∀ s, s ≠ 4 * i + o → M1 30 0 s = M 30 0 s) → zfm b M M1 → ∃ M', fL_tick_J251 (fL_tick_L154 k b (b + 1) (b + 2) (b + 3) 30 (nI i) n) k b (b + 1) (b + 2) (b + 3) 30 M1 (nI i) (nI o) = k M' (nI K) ∧ zLA b M' = zf (zria C i) (c + 1) o (zLA b M) ∧ zsa C (zLA b M') ∧ (∀ o', o ≤ o' → o' < K → M' 30 0 (4 * i + o') = zpa C i o') ∧ (∀ s, (s < 4 * i + o ∨ 4 * i + K ≤ s) → M' 30 0 s = M 30 0 s) ∧ zfm b M M' := by
      intro M1 g1 g2 g3 g4
      have s1 : zsa C (zLA b M1) := by
        rw [g1]; unfold zria; split
        · exact hs.ad (by show i < 6; omega)
        · exact hs
      obtain ⟨M2, e2, c2, s2, p2, q2, f2⟩ := ih (o + 1) n M1 (by omega) (by omega) s1
      unfold fL_tick_J251
      rw [zL_eq, nI_1]
      refine ⟨M2, e2, by rw [c2, g1]; rfl, s2, fun o' h1 h2 => ?_, fun s h1 => ?_, g4.trans f2⟩
      · by_cases h3 : o' = o
        · rw [h3, q2 _ (by omega), g2]
        · exact p2 o' (by omega) h2
      · rw [q2 s (by omega), g3 s (by omega)]
    have f30 : ∀ v, zfm b M (zw M 30 0 (4 * i + o) v) := fun v k' i' a1 a2 => zw_ne (by omega)
    by_cases hio : i = o
    · subst hio
      rw [if_pos rfl, zi4, zI_eq (zix_nI (by omega) (by omega)), zL_eq, zI_eq (zix_nI (by omega) (by omega)), zL_eq, zN_nI (by omega)]
      have r : zw M 30 0 (4 * i + i) (-1) 30 0 (4 * i + i) = -1 := by rw [zw_at]; unfold upd; rw [if_pos rfl]
      rw [r, if_pos (by decide)]
      refine next _ ?_ ?_ (fun s h1 => ?_) (f30 _)
      · rw [zLA_me hb]; unfold zria; rw [zcr_self, if_neg (by decide)]
      · rw [r]; unfold zpa; rw [zcr_self, if_neg (by decide)]
      · rw [zw_at]; unfold upd; rw [if_neg h1]
    · rw [if_neg (by rw [zeq (by omega) (by omega)]; exact hio)]
      have hp := eL_place (M := M) (b := b) (A := zLA b M) (k := i) (o := o) rfl (hs.kp (by omega) (hC.2.2 i (by omega)).kp) (hs.kp (by omega) (hC.2.2 o (by omega)).kp) (by rw [hs.Kn]; omega) (by rw [hs.Kn]; omega) (by rw [hs.Kn]; omega) hio
      rw [hs.pa (by omega) (by omega)] at hp
      rw [hp, zC_some, zi4, zI_eq (zix_nI (by omega) (by omega)), zL_eq, zI_eq (zix_nI (by omega) (by omega)), zL_eq, zN_nI (by omega)]
      have r : ∀ v, zw M 30 0 (4 * i + o) v 30 0 (4 * i + o) = v := fun v => by rw [zw_at]; unfold upd; rw [if_pos rfl]
      rw [r]
      have o1 : ∀ v s, s ≠ 4 * i + o → zw M 30 0 (4 * i + o) v 30 0 s = M 30 0 s := fun v s h1 => by rw [zw_at]; unfold upd; rw [if_neg h1]
      cases hc : zcr C i o with
      | false =>
        rw [if_pos (zpa_neg.mpr hc)]
        refine next _ ?_ (r _) (o1 _) (f30 _)
        rw [zLA_me hb]; unfold zria; rw [hc, if_neg (by decide)]
      | true =>
        obtain ⟨y1, y2, y3⟩ := zpa_yes hc
        have hl := zpl_lt hc
        rw [if_neg (fun q => by rw [zpa_neg, hc] at q; cases q)]
        have sl := eL_sliding (b := b) (M := zw M 30 0 (4 * i + o) (zpa C i o)) hi4 ho4
        rw [zLA_me hb, hs.sl (by omega) (by omega)] at sl
        have g5 : zw M 30 0 (4 * i + o) (zpa C i o) (b + 1) 0 (12 * o + 5) = C o 5 := by
          rw [zla (b := b) (M := zw M 30 0 (4 * i + o) (zpa C i o)) (p := 5) ho4 (by omega), zLA_me hb, hs o 5 (by omega)]
        rw [zx5, zxI ho4 (by omega), zxN ho4 (by omega), sl, zC_some, g5, y1]
        have fin : ∀ (v : Int32), v = zrb C i o → ∃ M', (zC (fL_wear (zw M 30 0 (4 * i + o) (zpa C i o)) (nI i) (nI (zpl C i o)) v (b + 2) (b + 3)) fun _ M59 => fL_tick_J251 (fL_tick_L154 k b (b + 1) (b + 2) (b + 3) 30 (nI i) n) k b (b + 1) (b + 2) (b + 3) 30 M59 (nI i) (nI o)) = k M' (nI K) ∧ zLA b M' = zf (zria C i) (c + 1) o (zLA b M) ∧ zsa C (zLA b M') ∧ (∀ o', o ≤ o' → o' < K → M' 30 0 (4 * i + o') = zpa C i o') ∧ (∀ s, (s < 4 * i + o ∨ 4 * i + K ≤ s) → M' 30 0 s = M 30 0 s) ∧ zfm b M M' := by
          intro v hv
          obtain ⟨M1, e1, c1, f1⟩ := eL_wear (b := b) (M := zw M 30 0 (4 * i + o) (zpa C i o)) (v := v) hi4 hl
          rw [e1, zC_some]
          have f30' : M1 30 0 = zw M 30 0 (4 * i + o) (zpa C i o) 30 0 := f1 30 0 (by omega)
          refine next M1 ?_ (by rw [f30']; exact r _) (fun s h1 => by rw [f30']; exact o1 _ s h1) ((f30 _).trans f1.m)
          rw [c1, zLA_me hb, hv]; unfold zria; rw [hc, if_pos rfl]; rfl
        cases hst : zst C i o with
        | false =>
          rw [if_pos (y2.mpr hst)]
          exact fin _ (by unfold zrb; rw [hst, if_neg (by decide), Int32.mul_one])
        | true =>
          rw [if_neg (fun q => by rw [y2, hst] at q; cases q)]
          exact fin _ (by unfold zrb; rw [hst, if_pos rfl, Int32.mul_comm])
theorem lL_wo {b K : Nat} (hb : b = 26 ∨ b = 31) {C : zA} (hC : zok C) (hKC : zKn C = K) (hK4 : K ≤ 4) {k : zM → Int32 → Option (Int32 × zM)} : ∀ (c i n : Nat) (M : zM), i + c = K → c < n → zsa C (zLA b M) →
    ∃ M', fL_tick_L143 k b (b + 1) (b + 2) (b + 3) 30 n M (nI i) = k M' (nI K) ∧ zLA b M' = zf (zroa C K) c i (zLA b M) ∧ zsa C (zLA b M') ∧ (∀ i' o', i ≤ i' → i' < K → o' < K → M' 30 0 (4 * i' + o') = zpa C i' o') ∧ (∀ s, s < 4 * i → M' 30 0 s = M 30 0 s) ∧ zfm b M M' := by
  intro c
  induction c with
  | zero =>
    intro i n M hi hn hs
    obtain ⟨n, rfl⟩ : ∃ q, n = q + 1 := ⟨n - 1, by omega⟩
    obtain rfl : i = K := by omega
    refine ⟨M, ?_, rfl, hs, fun i' o' h1 h2 => by omega, fun _ _ => rfl, zfm.refl⟩
    unfold fL_tick_L143
    rw [zI_eq (by decide), zlK (b := b) (M := M) rfl (by rw [hs.Kn, hs 6 0 (by omega)]; exact hC.1), hs.Kn, hKC, if_pos (by rw [zle (by omega) (by omega)]; omega)]
  | succ c ih =>
    intro i n M hi hn hs
    obtain ⟨n, rfl⟩ : ∃ q, n = q + 1 := ⟨n - 1, by omega⟩
    unfold fL_tick_L143
    rw [zI_eq (by decide), zlK (b := b) (M := M) rfl (by rw [hs.Kn, hs 6 0 (by omega)]; exact hC.1), hs.Kn, hKC, if_neg (by rw [zle (by omega) (by omega)]; omega)]
    obtain ⟨M1, e1, c1, s1, p1, q1, f1⟩ := lL_wi hb hC hKC hK4 (show i < K by omega) (k := fun M61 v62 => zL (nI i + 1) fun v63 => fL_tick_L143 k b (b + 1) (b + 2) (b + 3) 30 n M61 v63) K 0 2000 M (by omega) (by omega) hs
    rw [show (0 : Int32) = nI 0 from rfl, e1, zL_eq, nI_1]
    obtain ⟨M2, e2, c2, s2, p2, q2, f2⟩ := ih (i + 1) n M1 (by omega) (by omega) s1
    refine ⟨M2, e2, by rw [c2, c1]; rfl, s2, fun i' o' h1 h2 h3 => ?_, fun s h1 => by rw [q2 s (by omega), q1 s (by omega)], f1.trans f2⟩
    by_cases h4 : i' = i
    · rw [h4, q2 _ (by omega), p1 o' (by omega) h3]
    · exact p2 i' o' (by omega) h2 h3
/-! who is cut -/
theorem zor2 (m z : Int32) : m ||| z ||| z = m ||| z := by rw [Int32.or_assoc, Int32.or_self]
theorem lL_c1 {b : Nat} {W : zA} {i : Nat} (hi : i < 4) {M : zM} (hW : zLA b M = W) {a6 : Int32} {k : zM → Int32 → Int32 → Option (Int32 × zM)} : ∀ (c p n : Nat) (m : Int32), p + c = 32 → c < n →
    fL_tick_L283 k b (b + 1) (b + 2) (b + 3) 30 a6 (nI i) n M m (nI p) = k M (zf (fun p m => if W i 8 = 0 ∧ W i 6 ≤ W i (12 + p) then m ||| zbit i else m) c p m) (nI 32) := by
  intro c
  induction c with
  | zero =>
    intro p n m hp hn
    obtain ⟨n, rfl⟩ : ∃ q, n = q + 1 := ⟨n - 1, by omega⟩
    obtain rfl : p = 32 := by omega
    rfl
  | succ c ih =>
    intro p n m hp hn
    obtain ⟨n, rfl⟩ : ∃ q, n = q + 1 := ⟨n - 1, by omega⟩
    have rk : ∀ q, q < 12 → M (b + 1) 0 (12 * i + q) = W i q := fun q hq => by rw [zla (b := b) (M := M) hi hq, hW]
    have wo := eL_worn (b := b) (M := M) hi (show p < 32 by omega)
    rw [hW] at wo
    unfold fL_tick_L283
    rw [if_neg (by rw [show (32 : Int32) = nI 32 from rfl, zle (by omega) (by omega)]; omega), zx8, zxI hi (by omega), zxN hi (by omega), rk 8 (by omega)]
    unfold fL_tick_J338
    show _ = k M (zf _ c (p + 1) (if W i 8 = 0 ∧ W i 6 ≤ W i (12 + p) then m ||| zbit i else m)) (nI 32)
    by_cases c8 : W i 8 = 0
    · rw [if_pos c8, wo, zC_some, zx6, zxI hi (by omega), zxN hi (by omega), rk 6 (by omega)]
      by_cases cw : W i (12 + p) < W i 6
      · rw [if_pos cw, zL_eq, zL_eq, nI_1, or0, if_neg (show ¬ (W i 8 = 0 ∧ W i 6 ≤ W i (12 + p)) by rw [zlt_i] at cw; rw [zle_i]; omega)]
        exact ih (p + 1) n m (by omega) (by omega)
      · rw [if_neg cw, zL_eq, zL_eq, nI_1, if_pos (show W i 8 = 0 ∧ W i 6 ≤ W i (12 + p) from ⟨c8, by rw [zlt_i] at cw; rw [zle_i]; omega⟩)]
        exact ih (p + 1) n _ (by omega) (by omega)
    · rw [if_neg c8, zL_eq, zL_eq, nI_1, or0, if_neg (show ¬ (W i 8 = 0 ∧ W i 6 ≤ W i (12 + p)) from fun q => c8 q.1)]
      exact ih (p + 1) n m (by omega) (by omega)
theorem zcxx {W : zA} {i : Nat} : ∀ (c p : Nat) (m : Int32), ((W i 8 = 0 ∧ ∃ q, p ≤ q ∧ q < p + c ∧ W i 6 ≤ W i (12 + q)) → zf (fun p m => if W i 8 = 0 ∧ W i 6 ≤ W i (12 + p) then m ||| zbit i else m) c p m = m ||| zbit i) ∧ (¬ (W i 8 = 0 ∧ ∃ q, p ≤ q ∧ q < p + c ∧ W i 6 ≤ W i (12 + q)) → zf (fun p m => if W i 8 = 0 ∧ W i 6 ≤ W i (12 + p) then m ||| zbit i else m) c p m = m) := by
  intro c
  induction c with
  | zero =>
    intro p m
    exact ⟨by rintro ⟨_, q, h1, h2, _⟩; omega, fun _ => rfl⟩
  | succ c ih =>
    intro p m
    show (_ → zf _ c (p + 1) (if W i 8 = 0 ∧ W i 6 ≤ W i (12 + p) then m ||| zbit i else m) = _) ∧ (_ → zf _ c (p + 1) (if W i 8 = 0 ∧ W i 6 ≤ W i (12 + p) then m ||| zbit i else m) = _)
    by_cases hp : W i 8 = 0 ∧ W i 6 ≤ W i (12 + p)
    · rw [if_pos hp]
      obtain ⟨i1, i2⟩ := ih (p + 1) (m ||| zbit i)
      refine ⟨fun _ => ?_, fun hn => absurd ⟨hp.1, p, by omega, by omega, hp.2⟩ hn⟩
      by_cases hx : W i 8 = 0 ∧ ∃ q, p + 1 ≤ q ∧ q < p + 1 + c ∧ W i 6 ≤ W i (12 + q)
      · rw [i1 hx, zor2]
      · rw [i2 hx]
    · rw [if_neg hp]
      obtain ⟨i1, i2⟩ := ih (p + 1) m
      constructor
      · rintro ⟨h8, q, q1, q2, q3⟩
        refine i1 ⟨h8, q, ?_, by omega, q3⟩
        rcases Nat.lt_or_ge p q with a | a
        · omega
        · have : q = p := by omega
          subst this
          exact absurd ⟨h8, q3⟩ hp
      · intro hn
        refine i2 fun hx => hn ?_
        obtain ⟨h8, q, q1, q2, q3⟩ := hx
        exact ⟨h8, q, by omega, by omega, q3⟩
theorem zcxx_n {W : zA} {i : Nat} {m : Int32} (hi : i < zKn W) (h6 : 0 < (W i 6).toInt) : zf (fun p m => if W i 8 = 0 ∧ W i 6 ≤ W i (12 + p) then m ||| zbit i else m) 32 0 m = zcn W i m := by
  obtain ⟨i1, i2⟩ := zcxx (W := W) (i := i) 32 0 m
  unfold zcn
  rw [zfly_is hi]
  have hg := zgw_iff (A := W) (k := i) h6
  by_cases h8 : W i 8 = 0
  · rw [decide_eq_true h8, Bool.true_and]
    by_cases hx : (W i 6).toInt ≤ (zgw W i).toInt
    · obtain ⟨q, q1, q2⟩ := hg.mp hx
      rw [i1 ⟨h8, q, by omega, by omega, by rw [zle_i]; exact q2⟩, decide_eq_true hx, if_pos rfl]
    · rw [decide_eq_false hx, if_neg (show ¬ false = true by decide), or0, i2]
      rintro ⟨_, q, _, q1, q2⟩
      exact hx (hg.mpr ⟨q, by omega, by rw [zle_i] at q2; exact q2⟩)
  · rw [decide_eq_false h8, Bool.false_and, if_neg (show ¬ false = true by decide), or0, i2 (fun q => h8 q.1)]
theorem lL_c2 {b K : Nat} {W : zA} (hK : zKn W = K) (hK4 : K ≤ 4) (h60 : W 6 0 = nI (zKn W)) (h6 : ∀ i, i < K → 0 < (W i 6).toInt) {M : zM} (hW : zLA b M = W) {a6 : Int32} {k : zM → Int32 → Int32 → Option (Int32 × zM)} : ∀ (c i n : Nat) (m : Int32), i + c = K → c < n →
    fL_tick_L272 k b (b + 1) (b + 2) (b + 3) 30 a6 n M m (nI i) = k M (zf (zcn W) c i m) (nI K) := by
  intro c
  induction c with
  | zero =>
    intro i n m hi hn
    obtain ⟨n, rfl⟩ : ∃ q, n = q + 1 := ⟨n - 1, by omega⟩
    obtain rfl : i = K := by omega
    unfold fL_tick_L272
    rw [zI_eq (by decide), zlK hW h60, hK, if_pos (by rw [zle (by omega) (by omega)]; omega)]
    rfl
  | succ c ih =>
    intro i n m hi hn
    obtain ⟨n, rfl⟩ : ∃ q, n = q + 1 := ⟨n - 1, by omega⟩
    unfold fL_tick_L272
    rw [zI_eq (by decide), zlK hW h60, hK, if_neg (by rw [zle (by omega) (by omega)]; omega), show (0 : Int32) = nI 0 from rfl, lL_c1 (show i < 4 by omega) hW 32 0 2000 m (by omega) (by omega), zcxx_n (by omega) (h6 i (by omega)), zL_eq, nI_1]
    exact ih (i + 1) n _ (by omega) (by omega)
