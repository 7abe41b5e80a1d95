/-! ===== calls: carryOut ===== -/
theorem e1_dig {M : zM} {L : List Int32} {q : Nat} (h : zPk M L) (hq : q < L.length) : fX1_digitAt M (nI q) = some (zxc L q - 48, M) := by
  unfold fX1_digitAt
  rw [e1_sign h hq, zC_some]
theorem zxc_d {L : List Int32} {q : Nat} {a b : Int} (h : zwin (zxc L q - 48) a b = true) (ha : 0 ≤ a) : q < L.length := by
  refine zxc_lt fun e => ?_
  rw [e] at h
  have := zwin_0 h ha
  exact absurd this (by decide)
theorem e1_step {M : zM} {L : List Int32} {p : Nat} (h : zPk M L) (hv : ¬ (zxs L p).2 = -6) : fX1_afterStep M (nI p) = some (nI (zxs L p).1, M) ∧ fX1_stepAt M (nI p) = some ((zxs L p).2, M) := by
  have n2 : nI p + 2 = nI (p + 2) := by rw [show (2 : Int32) = nI 2 from rfl, nI_add]
  unfold fX1_afterStep fX1_stepAt
  unfold zxs at hv ⊢
  by_cases c1 : zxc L p = 48
  · have hp : p < L.length := zxc_lt (by rw [c1]; decide)
    rw [if_pos c1, e1_sign h hp, zC_some, zC_some, if_pos c1, if_pos c1, nI_1]
    exact ⟨rfl, rfl⟩
  rw [if_neg c1] at hv
  rw [if_neg c1]
  by_cases c2 : zxc L p = 43
  · have hp : p < L.length := zxc_lt (by rw [c2]; decide)
    rw [if_pos c2] at hv
    rw [if_pos c2, e1_sign h hp, zC_some, zC_some, if_neg c1, if_neg c1, n2, nI_1]
    cases hd : zwin (zxc L (p + 1) - 48) 1 3
    · rw [hd, if_neg (by decide)] at hv; exact absurd rfl hv
    · rw [if_pos rfl, if_neg (by rw [c2]; decide), e1_dig h (zxc_d hd (by omega)), zC_some]
      exact ⟨rfl, rfl⟩
  rw [if_neg c2] at hv
  rw [if_neg c2]
  by_cases c3 : zxc L p = 45
  · have hp : p < L.length := zxc_lt (by rw [c3]; decide)
    rw [if_pos c3] at hv
    rw [if_pos c3, e1_sign h hp, zC_some, zC_some, if_neg c1, if_neg c1, n2, nI_1]
    cases hd : zwin (zxc L (p + 1) - 48) 1 3
    · rw [hd, if_neg (by decide)] at hv; exact absurd rfl hv
    · rw [if_pos rfl, if_pos c3, e1_dig h (zxc_d hd (by omega)), zC_some]
      exact ⟨rfl, rfl⟩
  rw [if_neg c3] at hv
  exact absurd rfl hv
theorem zxo_ok {L : List Int32} {q : Nat} (h : ¬ (zxo L q).2.2.2 = -6) : zwin (zxc L q - 48) 0 5 = true ∧ zxc L (q + 1) = 58 ∧ ¬ (zxs L (q + 2)).2 = -6 ∧ ¬ (zxs L (zxs L (q + 2)).1).2 = -6 ∧ zxo L q = ((zxs L (zxs L (q + 2)).1).1, zxc L q - 48, (zxs L (q + 2)).2, (zxs L (zxs L (q + 2)).1).2) := by
  unfold zxo at h ⊢
  cases hd : zwin (zxc L q - 48) 0 5
  · rw [hd, if_neg (by decide)] at h; exact absurd rfl h
  rw [hd, if_pos rfl] at h
  rw [if_pos rfl]
  by_cases c1 : zxc L (q + 1) = 58
  · rw [if_pos c1] at h
    rw [if_pos c1]
    by_cases c2 : (zxs L (q + 2)).2 = -6
    · rw [if_pos c2] at h; exact absurd rfl h
    · rw [if_neg c2] at h
      rw [if_neg c2]
      exact ⟨rfl, c1, c2, h, rfl⟩
  · rw [if_neg c1] at h; exact absurd rfl h
theorem zxo_le {L : List Int32} {q : Nat} : (zxo L q).1 ≤ q + 6 := by
  have l1 := zxs_le (L := L) (q := q + 2)
  have l2 := zxs_le (L := L) (q := (zxs L (q + 2)).1)
  unfold zxo
  split
  · split
    · split
      · show (zxs L (q + 2)).1 ≤ q + 6; omega
      · show (zxs L (zxs L (q + 2)).1).1 ≤ q + 6; omega
    · show q + 1 ≤ q + 6; omega
  · show q ≤ q + 6; omega
theorem zxV {L : List Int32} (h : zch L) {q : Nat} (h60 : L.length ≤ 60) (hq : q < L.length) (hr : zxR L q 0 = -6) : ¬ (zxo L q).2.2.2 = -6 ∧ q < (zxo L q).1 ∧ (zxo L q).1 ≤ L.length ∧ (zxc L (zxo L q).1 = 59 → (zxo L q).1 + 1 < L.length ∧ zxR L ((zxo L q).1 + 1) 0 = -6) ∧ (¬ zxc L (zxo L q).1 = 59 → (zxo L q).1 = L.length) := by
  obtain ⟨u1, u2⟩ := zxo_run h (Nat.le_of_lt hq)
  have hle := zxo_le (L := L) (q := q)
  have c1 : ¬ (zxo L q).2.2.2 = -6 := fun c => n6_big (i := (zxo L q).1) (by omega) ((u2 c).symm.trans hr)
  obtain ⟨u3, u4, u5⟩ := u1 c1
  rw [u5] at hr
  refine ⟨c1, u3, u4, fun c => ?_, fun c => ?_⟩
  · obtain ⟨w1, w2⟩ := zxR_s (L := L) (q := (zxo L q).1) (s := 6) (s' := 0) (by rw [zxp_59, if_pos c])
    rw [w2] at hr
    refine ⟨?_, hr⟩
    rcases Nat.lt_or_ge ((zxo L q).1 + 1) L.length with a | a
    · exact a
    · have e : (zxo L q).1 + 1 = L.length := by omega
      rw [e, zxR_e, if_neg (by decide)] at hr
      exact absurd hr (n6_big (by omega))
  · rw [zxR_n u4 (by rw [zxp_59, if_neg c])] at hr
    by_cases e : (zxo L q).1 = L.length
    · exact e
    · rw [if_neg (fun h => e h.2)] at hr
      exact absurd hr (n6_big (by omega))
def zxg (L : List Int32) : Nat → Nat → zA → Nat → zA × Nat
  | 0, _, A, m => (A, m)
  | c + 1, q, A, m => if L.length ≤ q then (A, m) else if zwhy A (zxo L q).2.1 (zxo L q).2.2.1 (zxo L q).2.2.2 = 0 then zxg L c ((zxo L q).1 + 1) (ztn3 A (zN (zxo L q).2.1) (zxo L q).2.2.1 (zxo L q).2.2.2) (m + 1) else (A, m)
theorem zxg_end {L : List Int32} {q m : Nat} {A : zA} (h : L.length ≤ q) : ∀ c, zxg L c q A m = (A, m) := by
  intro c
  cases c with
  | zero => rfl
  | succ c =>
    show (if L.length ≤ q then (A, m) else _) = _
    rw [if_pos h]
theorem zxg_s {L : List Int32} {c q m : Nat} {A : zA} (h : ¬ L.length ≤ q) : zxg L (c + 1) q A m = if zwhy A (zxo L q).2.1 (zxo L q).2.2.1 (zxo L q).2.2.2 = 0 then zxg L c ((zxo L q).1 + 1) (ztn3 A (zN (zxo L q).2.1) (zxo L q).2.2.1 (zxo L q).2.2.2) (m + 1) else (A, m) := by
  show (if L.length ≤ q then (A, m) else _) = _
  rw [if_neg h]
theorem l6_go {σ : zSg} {L : List Int32} (hL : σ.2.2.2.2 = L) (hch : zch L) (h60 : L.length ≤ 60) : ∀ (c q i m n : Nat) (M : zM) (A : zA), L.length ≤ q + c → c < n → i ≤ q → q ≤ 61 → (q < L.length → zxR L q 0 = -6) → zOK (A, σ.2) → zCR M (A, σ.2) →
    ∃ M', fX6_giveOrdersOfPad_L6 (fun M41 v42 v43 v44 => some (v42, M41)) n M (nI m) (nI q) (nI i) = some (nI (zxg L c q A m).2, M') ∧ zOK ((zxg L c q A m).1, σ.2) ∧ zCR M' ((zxg L c q A m).1, σ.2) ∧ zhi M M' := by
  have stop : ∀ (c q i m n : Nat) (M : zM) (A : zA), L.length ≤ q → q ≤ 61 → 0 < n → zOK (A, σ.2) → zCR M (A, σ.2) → ∃ M', fX6_giveOrdersOfPad_L6 (fun M41 v42 v43 v44 => some (v42, M41)) n M (nI m) (nI q) (nI i) = some (nI (zxg L c q A m).2, M') ∧ zOK ((zxg L c q A m).1, σ.2) ∧ zCR M' ((zxg L c q A m).1, σ.2) ∧ zhi M M' := by
    intro c q i m n M A hq hq2 hn h0 h1
    obtain ⟨n, rfl⟩ : ∃ q, n = q + 1 := ⟨n - 1, by omega⟩
    have e24 : M 24 0 1 = nI L.length := by rw [← hL]; exact h1.2.2.2.2.1
    rw [zxg_end hq]
    refine ⟨M, ?_, h0, h1, zhi.refl⟩
    unfold fX6_giveOrdersOfPad_L6
    by_cases c6 : (60 : Int32) ≤ nI i
    · rw [if_pos c6]
    · rw [if_neg c6, e24, if_pos (by rw [zle (by omega) (by omega)]; exact hq)]
  intro c
  induction c with
  | zero =>
    intro q i m n M A hq hn _ hq2 _ h0 h1
    exact stop 0 q i m n M A (by omega) hq2 (by omega) h0 h1
  | succ c ih =>
    intro q i m n M A hq hn hi hq2 hr h0 h1
    by_cases hc : L.length ≤ q
    · exact stop (c + 1) q i m n M A hc hq2 (by omega) h0 h1
    have hql : q < L.length := by omega
    obtain ⟨n, rfl⟩ : ∃ q, n = q + 1 := ⟨n - 1, by omega⟩
    have hp : zPk M L := by rw [← hL]; exact zCR.P (σ := (A, σ.2)) h0 h1
    obtain ⟨v1, v2, v3, v4, v5⟩ := zxV hch h60 hql (hr hql)
    obtain ⟨_, _, w3, w4, w5⟩ := zxo_ok v1
    have ea : fX1_afterKite M (nI q) = some (nI (q + 2), M) := by unfold fX1_afterKite; rw [show (2 : Int32) = nI 2 from rfl, nI_add]
    have e1 := e1_step hp w3
    have e2 := e1_step hp w4
    unfold fX6_giveOrdersOfPad_L6
    rw [if_neg (show ¬ (60 : Int32) ≤ nI i from nI_ge (b := 60) (by omega) (by omega)), hp.1, if_neg (by rw [zle (by omega) (by omega)]; omega), ea, zC_some, e1.1, zC_some, e1_dig hp hql, zC_some, e1.2, zC_some, e2.2, zC_some, e6_why h0 h1, zC_some, zxg_s hc]
    rw [w5] at v2 v3 v4 v5 ⊢
    show ∃ M', (if zwhy A (zxc L q - 48) (zxs L (q + 2)).2 (zxs L (zxs L (q + 2)).1).2 = 0 then _ else some (nI m, M)) = some (nI (if zwhy A (zxc L q - 48) (zxs L (q + 2)).2 (zxs L (zxs L (q + 2)).1).2 = 0 then zxg L c ((zxs L (zxs L (q + 2)).1).1 + 1) (ztn3 A (zN (zxc L q - 48)) (zxs L (q + 2)).2 (zxs L (zxs L (q + 2)).1).2) (m + 1) else (A, m)).2, M') ∧ zOK ((if zwhy A (zxc L q - 48) (zxs L (q + 2)).2 (zxs L (zxs L (q + 2)).1).2 = 0 then zxg L c ((zxs L (zxs L (q + 2)).1).1 + 1) (ztn3 A (zN (zxc L q - 48)) (zxs L (q + 2)).2 (zxs L (zxs L (q + 2)).1).2) (m + 1) else (A, m)).1, σ.2) ∧ zCR M' ((if zwhy A (zxc L q - 48) (zxs L (q + 2)).2 (zxs L (zxs L (q + 2)).1).2 = 0 then zxg L c ((zxs L (zxs L (q + 2)).1).1 + 1) (ztn3 A (zN (zxc L q - 48)) (zxs L (q + 2)).2 (zxs L (zxs L (q + 2)).1).2) (m + 1) else (A, m)).1, σ.2) ∧ zhi M M'
    by_cases hz : zwhy A (zxc L q - 48) (zxs L (q + 2)).2 (zxs L (zxs L (q + 2)).1).2 = 0
    · rw [if_pos hz, if_pos hz]
      obtain ⟨k, hk, hk6, ek, ha, hb, hf⟩ := zwhy_0 hz h0.1.2.1
      rw [ek, zN_nI (by omega)]
      obtain ⟨M1, g1, g2, g3⟩ := e2_turn (M := M) (j := 0) (a := (zxs L (q + 2)).2) (b := (zxs L (zxs L (q + 2)).1).2) hk6
      rw [show zcA M 0 = A from h1.1] at g2
      have h1' : zCR M1 (ztn3 A k (zxs L (q + 2)).2 (zxs L (zxs L (q + 2)).1).2, σ.2) := zgs.CR (σ := (A, σ.2)) h1 (g3.gs (by omega)) g2
      have h0' : zOK (ztn3 A k (zxs L (q + 2)).2 (zxs L (zxs L (q + 2)).1).2, σ.2) := zOK.of (σ := (A, σ.2)) h0 (ztn3_ok h0.1 hk6 ha hb)
      have hp' : zPk M1 L := by rw [← hL]; exact zCR.P (σ := (ztn3 A k (zxs L (q + 2)).2 (zxs L (zxs L (q + 2)).1).2, σ.2)) h0' h1'
      have es : fX1_afterSemicolon M1 (nI (zxs L (zxs L (q + 2)).1).1) = some (nI ((zxs L (zxs L (q + 2)).1).1 + 1), M1) := by unfold fX1_afterSemicolon; rw [nI_1]
      rw [g1, zC_some, zL_eq, (e1_step hp' w4).1, zC_some, es, zC_some, zL_eq, nI_1, nI_1]
      have v2' : q < (zxs L (zxs L (q + 2)).1).1 := v2
      have v3' : (zxs L (zxs L (q + 2)).1).1 ≤ L.length := v3
      obtain ⟨M2, r1, r2, r3, r4⟩ := ih ((zxs L (zxs L (q + 2)).1).1 + 1) (i + 1) (m + 1) n M1 (ztn3 A k (zxs L (q + 2)).2 (zxs L (zxs L (q + 2)).1).2) (by omega) (by omega) (by omega) (by omega) (fun hlt => by
        by_cases c9 : zxc L (zxs L (zxs L (q + 2)).1).1 = 59
        · exact (v4 c9).2
        · have v5' : (zxs L (zxs L (q + 2)).1).1 = L.length := v5 c9
          omega) h0' h1'
      exact ⟨M2, r1, r2, r3, g3.hi.trans r4⟩
    · rw [if_neg hz, if_neg hz]
      exact ⟨M, rfl, h0, h1, zhi.refl⟩
theorem l7_go {σ : zSg} {L : List Int32} (hL : σ.2.2.2.2 = L) (hch : zch L) (h60 : L.length ≤ 60) {k : zM → Int32 → Int32 → Option (Int32 × zM)} : ∀ (c q q7 m n : Nat) (N : zM) (A : zA), L.length ≤ q + c → c + 1 < n → (q7 = q ∨ (L.length ≤ q ∧ L.length ≤ q7)) → q7 ≤ 61 → (q < L.length → zxR L q 0 = -6) → zOK (A, σ.2) → zRR N (A, σ.2) → N 26 0 14 = nI q7 →
    ∃ N' v, fX7_carryOut_L25 k n N (nI m) 1 = k N' (nI (zxg L c q A m).2) v ∧ zRR N' ((zxg L c q A m).1, σ.2) ∧ zlo N N' := by
  have stop : ∀ (c q q7 m n : Nat) (N : zM) (A : zA), L.length ≤ q → L.length ≤ q7 → q7 ≤ 61 → 0 < n → zRR N (A, σ.2) → N 26 0 14 = nI q7 → ∃ N' v, fX7_carryOut_L25 k n N (nI m) 1 = k N' (nI (zxg L c q A m).2) v ∧ zRR N' ((zxg L c q A m).1, σ.2) ∧ zlo N N' := by
    intro c q q7 m n N A hq hq7 hq2 hn h2 h14
    obtain ⟨n, rfl⟩ : ∃ q, n = q + 1 := ⟨n - 1, by omega⟩
    have e7 : N 26 0 7 = nI L.length := by rw [← hL]; exact h2.2.2.2.2.1
    rw [zxg_end hq]
    refine ⟨N, 1, ?_, h2, zlo.refl⟩
    unfold fX7_carryOut_L25
    rw [if_neg (by decide), e7, h14, if_pos (by rw [zle (by omega) (by omega)]; exact hq7)]
  intro c
  induction c with
  | zero =>
    intro q q7 m n N A hq hn hq7 hq2 _ h0 h2 h14
    exact stop 0 q q7 m n N A (by omega) (by omega) hq2 (by omega) h2 h14
  | succ c ih =>
    intro q q7 m n N A hq hn hq7 hq2 hr h0 h2 h14
    by_cases hc : L.length ≤ q
    · exact stop (c + 1) q q7 m n N A hc (by omega) hq2 (by omega) h2 h14
    have hql : q < L.length := by omega
    obtain rfl : q7 = q := by omega
    obtain ⟨n, rfl⟩ : ∃ q, n = q + 1 := ⟨n - 1, by omega⟩
    have hp : zPn N L := by rw [← hL]; exact zRR.P (σ := (A, σ.2)) h0 h2
    obtain ⟨v1, v2, v3, v4, v5⟩ := zxV hch h60 hql (hr hql)
    obtain ⟨N1, e1, a1, a2, a3, a4, f1⟩ := e7_reads hp (by omega) h14
    obtain ⟨N2, e2, b1, f2⟩ := e7_next (c := 59) (f1.P hp) (by omega) a1
    have g2 : zRR N2 (A, σ.2) := zgn.RR (σ := (A, σ.2)) h2 (f1.gn.trans f2.f4.gn) (by rw [f2.1 27 0 (by omega), f1.1 27 0 (by omega)]; exact h2.1)
    have b2 : N2 26 0 15 = (zxo L q7).2.1 := by rw [f2.2 15 (by omega)]; exact a2
    have b3 : N2 26 0 16 = (zxo L q7).2.2.1 := by rw [f2.2 16 (by omega)]; exact a3
    have b4 : N2 26 0 17 = (zxo L q7).2.2.2 := by rw [f2.2 17 (by omega)]; exact a4
    unfold fX7_carryOut_L25
    rw [if_neg (show ¬ (1 : Int32) = 0 by decide), hp.1, h14, if_neg (by rw [zle (by omega) (by omega)]; omega), e1, zC_some, e2, zC_some, b2, b3, b4, e7_why h0 g2, zC_some, zxg_s hc]
    show ∃ N' v, (if zwhy A (zxo L q7).2.1 (zxo L q7).2.2.1 (zxo L q7).2.2.2 = 0 then _ else _) = _ ∧ _
    by_cases hz : zwhy A (zxo L q7).2.1 (zxo L q7).2.2.1 (zxo L q7).2.2.2 = 0
    · rw [if_pos hz, if_pos hz]
      obtain ⟨k0, hk, hk6, ek, ha, hb, hf⟩ := zwhy_0 hz h0.1.2.1
      rw [b2, b3, b4, ek, zN_nI (by omega)]
      obtain ⟨N3, g3, g4, g5⟩ := e7_orders (N := N2) (a := (zxo L q7).2.2.1) (b := (zxo L q7).2.2.2) hk6 (by rw [g2.1]; exact h0.1.2.2 k0 hk) ha hb
      rw [show zrA (N2 27 0) = A from g2.1] at g4
      have h2' : zRR N3 (ztn3 A k0 (zxo L q7).2.2.1 (zxo L q7).2.2.2, σ.2) := zgn.RR (σ := (A, σ.2)) g2 g5.gn g4
      have h0' : zOK (ztn3 A k0 (zxo L q7).2.2.1 (zxo L q7).2.2.2, σ.2) := zOK.of (σ := (A, σ.2)) h0 (ztn3_ok h0.1 hk6 ha hb)
      rw [g3, zC_some, zL_eq, nI_1]
      have b14 : N3 26 0 14 = nI (if zxc L (zxo L q7).1 = 59 then (zxo L q7).1 + 1 else (zxo L q7).1) := by rw [g5 26 0 (by omega)]; exact b1
      have hle := zxo_le (L := L) (q := q7)
      obtain ⟨N4, v, r1, r2, r3⟩ := ih ((zxo L q7).1 + 1) (if zxc L (zxo L q7).1 = 59 then (zxo L q7).1 + 1 else (zxo L q7).1) (m + 1) n N3 (ztn3 A k0 (zxo L q7).2.2.1 (zxo L q7).2.2.2) (by omega) (by omega) (by
        by_cases c9 : zxc L (zxo L q7).1 = 59
        · rw [if_pos c9]; exact Or.inl rfl
        · rw [if_neg c9]; exact Or.inr ⟨by have := v5 c9; omega, by have := v5 c9; omega⟩) (by split <;> omega) (fun hlt => by
        by_cases c9 : zxc L (zxo L q7).1 = 59
        · exact (v4 c9).2
        · have := v5 c9; omega) h0' h2' b14
      exact ⟨N4, v, r1, r2, (((f1.gn.trans f2.f4.gn).trans g5.gn).lo).trans r3⟩
    · rw [if_neg hz, if_neg hz]
      obtain ⟨n, rfl⟩ : ∃ q, n = q + 1 := ⟨n - 1, by omega⟩
      refine ⟨N2, 0, ?_, g2, (f1.gn.trans f2.f4.gn).lo⟩
      unfold fX7_carryOut_L25
      rw [if_pos rfl]
theorem j_carry {M N : zM} {σ : zSg} (h0 : zOK σ) (h1 : zCR M σ) (h2 : zRR N σ) : zJ (fX6_carryOut M) (fX7_carryOut N) M N := by
  have h60 := h0.2.2.2.2.2.1
  have hch : zch σ.2.2.2.2 := h0.2.2.2.2.2.2
  unfold fX6_carryOut fX7_carryOut
  obtain ⟨N1, e1, f1⟩ := e7_fault hch (h2.P h0)
  have h2' : zRR N1 σ := zgn.RR h2 f1.gn (by rw [f1.1 27 0 (by omega)]; exact h2.1)
  rw [e1_fault (h1.P h0), e1, zC_some, zC_some]
  by_cases hr : zxR σ.2.2.2.2 0 0 = -6
  · rw [if_pos hr, if_pos hr]
    refine zJ.mono (M1 := M) (N1 := N1) ?_ zhi.refl f1.gn.lo
    refine zJ.rec h0 h1 h2' fun M1 N2 g0 g1 g2 => ?_
    unfold fX6_giveOrdersOfPad fX1_clear
    obtain ⟨M2, r1, r2, r3, r4⟩ := l6_go (σ := zrec σ) (L := σ.2.2.2.2) rfl hch h60 σ.2.2.2.2.length 0 0 0 2000 M1 σ.1 (by omega) (by omega) (by omega) (by omega) (fun _ => hr) g0 g1
    have z0 : nI 0 = 0 := rfl
    rw [z0] at r1
    rw [r1, zC_some, zL_eq, zC_some, zL_eq]
    have f3 : zfa4 N2 (zw N2 26 0 14 0) := zfa4.w (by omega)
    have g3 : zRR (zw N2 26 0 14 0) (zrec σ) := zgn.RR g2 f3.gn (by rw [f3.1 27 0 (by omega)]; exact g2.1)
    have key : ∀ (kk : zM → Int32 → Int32 → Option (Int32 × zM)) (o6 : Option (Int32 × zM)), (∀ N3 v, zRR N3 ((zxg σ.2.2.2.2 σ.2.2.2.2.length 0 σ.1 0).1, (zrec σ).2) → zlo N2 N3 → zJ o6 (kk N3 (nI (zxg σ.2.2.2.2 σ.2.2.2.2.length 0 σ.1 0).2) v) M1 N2) → zJ o6 (fX7_carryOut_L25 kk 2000 (zw N2 26 0 14 0) 0 1) M1 N2 := by
      intro kk o6 hk
      obtain ⟨N3, v, s1, s2, s3⟩ := l7_go (σ := zrec σ) (L := σ.2.2.2.2) rfl hch h60 (k := kk) σ.2.2.2.2.length 0 0 0 2000 (zw N2 26 0 14 0) σ.1 (by omega) (by omega) (Or.inl rfl) (by omega) (fun _ => hr) g0 g3 (by rw [zw26, if_pos rfl]; rfl)
      rw [z0] at s1
      rw [s1]
      exact hk N3 v s2 (f3.gn.lo.trans s3)
    refine key _ _ fun N3 v n1 n2 => ?_
    rw [zL_eq]
    refine ⟨_, _, _, ((zxg σ.2.2.2.2 σ.2.2.2.2.length 0 σ.1 0).1, (zrec σ).2.1, (zrec σ).2.2.1, (zrec σ).2.2.2.1, []), rfl, rfl, ⟨r2.1, r2.2.1, r2.2.2.1, r2.2.2.2.1, r2.2.2.2.2.1, Nat.zero_le _, fun c hc => absurd hc (by simp)⟩, r3.pad ?_ (fun k i _ b _ => zw_ne (by omega)) ?_ (fun q c hq => absurd hq (by simp)), n1.pad ?_ (fun k i a _ _ => zw_ne (by omega)) ?_ ?_ (fun q c hq => absurd hq (by simp)), r4.trans (fun k i hk => zw_ne (by omega)), n2.trans (fun k i hk => zw_ne (by omega))⟩
    · rw [zcA_skip (by omega)]; exact r3.1
    · rw [zw_at]; unfold upd; rw [if_pos rfl]; rfl
    · rw [zw_ne (by omega)]; exact n1.1
    · rw [zw26, if_neg (by decide)]
    · rw [zw26, if_pos rfl]; rfl
  · rw [if_neg hr, if_neg hr]
    exact zJ.mono (M1 := M) (N1 := N1) (zJ.ret h0 h1 h2') zhi.refl f1.gn.lo
