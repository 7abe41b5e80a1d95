/-! ===== calls: wear, step, order ===== -/
theorem gH {M : zM} {σ : zSg} {v : Int32} (h0 : zOK σ) (h1 : zCR M σ) : fX2_has M 0 v = some (zb (zhas σ.1 v), M) := by
  have := e2_has (M := M) (j := 0) (v := v) (by rw [h1.1]; exact h0.1)
  rw [h1.1] at this; exact this
theorem zCR.hk {M : zM} {σ : zSg} {k : Nat} (h1 : zCR M σ) (h0 : zOK σ) (hk : k < zKn σ.1) : zhk (zcA M 0) k := by rw [h1.1]; exact h0.1.hk hk
theorem gK {N : zM} {σ : zSg} {v : Int32} (h0 : zOK σ) (h2 : zRR N σ) : fX7_isKite N v = some (zb (zhas σ.1 v), N) := by
  have := e7_kite (M := N) (v := v) (by rw [h2.1]; exact h0.1)
  rw [h2.1] at this; exact this
theorem gF {M : zM} {σ : zSg} {k : Nat} (h0 : zOK σ) (h1 : zCR M σ) (hk : k < 6) : fX2_isFlying M 0 (nI k) = some (zb (zfly σ.1 k), M) := by
  have := e2_fly (M := M) (j := 0) (k := k) (by rw [h1.1]; exact h0.1) hk
  rw [h1.1] at this; exact this
theorem gG {N : zM} {σ : zSg} {k : Nat} (h0 : zOK σ) (h2 : zRR N σ) (hk : k < zKn σ.1) : fX7_flies N (nI k) = some (zb (zfly σ.1 k), N) := by
  have := e7_fly (M := N) (k := k) (by rw [h2.1]; exact hk) (by rw [h2.1]; exact h0.1.2.1)
  rw [h2.1] at this; exact this
theorem zkite_congr {A B : zA} {k : Nat} (e : ∀ p, B k p = A k p) (h : zkite A k) : zkite B k := by
  have e' : B k = A k := funext e
  unfold zkite at h ⊢
  rw [e']; exact h
theorem zok_row {A B : zA} {k : Nat} (h : zok A) (hr : ∀ k' p, k' ≠ k → B k' p = A k' p) (hk : k < 6) (hz : k < zKn A → zkite A k → zkite B k) : zok B := by
  have e : zKn B = zKn A := by unfold zKn; rw [hr 6 0 (by omega)]
  refine ⟨by rw [e, hr 6 0 (by omega)]; exact h.1, by rw [e]; exact h.2.1, fun k' hk' => ?_⟩
  rw [e] at hk'
  by_cases hc : k' = k
  · subst hc; exact hz hk' (h.2.2 k' hk')
  · exact zkite_congr (fun p => hr k' p hc) (h.2.2 k' hk')
theorem j_wear {M N : zM} {σ : zSg} {v1 v2 : Int32} (h0 : zOK σ) (h1 : zCR M σ) (h2 : zRR N σ) : zJ (fX6_wear M v1 v2) (fX7_wear N v1 v2) M N := by
  unfold fX6_wear fX7_wear
  rw [gH h0 h1, gK h0 h2, zC_some, zC_some]
  refine zJ.gd h0 h1 h2 fun hw => ?_
  obtain ⟨k, hk, hk6, rfl⟩ := zhas_nI hw h0.1.2.1
  rw [e2_within, e7_within, zC_some, zC_some]
  refine zJ.gd h0 h1 h2 fun hp => ?_
  obtain ⟨p, rfl, _, _, hp2⟩ := zwin_n hp (by decide)
  have hp32 : p < 32 := by have : (31 : Int32).toInt = 31 := rfl; omega
  rw [gF h0 h1 hk6, gG h0 h2 hk, zC_some, zC_some]
  refine zJ.gd h0 h1 h2 fun _ => ?_
  rw [e2_wearAt (h1.hk h0 hk) hp32, z12, e7_part hk6 (by omega), zC_some, zC_some, h1.1, h2.1]
  exact zJ.ret h0 h1 h2
theorem zfk.w {M : zM} {k j s : Nat} {v : Int32} (h : 1 ≤ k ∧ k ≤ 14) : zfk j M (zw M k j s v) := fun k' i' h' => zw_ne (by omega)
theorem j_step {M N : zM} {σ : zSg} {v1 v2 : Int32} (h0 : zOK σ) (h1 : zCR M σ) (h2 : zRR N σ) : zJ (fX6_step M v1 v2) (fX7_step N v1 v2) M N := by
  unfold fX6_step fX7_step
  rw [gH h0 h1, gK h0 h2, zC_some, zC_some]
  refine zJ.gd h0 h1 h2 fun hw => ?_
  obtain ⟨k, hk, hk6, rfl⟩ := zhas_nI hw h0.1.2.1
  rw [e2_within, e7_within, zC_some, zC_some]
  refine zJ.gd h0 h1 h2 fun hp => ?_
  rw [zwin_iff, show (0 : Int32).toInt = 0 from rfl, show (63 : Int32).toInt = 63 from rfl] at hp
  rw [gF h0 h1 hk6, gG h0 h2 hk, zC_some, zC_some]
  refine zJ.gd h0 h1 h2 fun _ => ?_
  refine zJ.rec h0 h1 h2 fun M1 N1 g0 g1 g2 => ?_
  rw [zI_eq (zix_nI hk6 (by omega)), zL_eq, zI_eq (zix_nI hk6 (by omega)), zL_eq, zN_nI (by omega), zr0 (M := M1) hk6, e7_p0 hk6, zC_some, e7_s0 hk6, zC_some, g1.1, g2.1]
  refine zJ.fin (A := zp σ.1 k 0 v2) g0 g1 g2 (zok_row (k := k) h0.1 (fun k' p h => zp_nk h) hk6 fun _ hz => ?_) (zfk.gs (j := 0) (by omega) (zfk.w (by omega))) (by rw [zc0 hk6, g1.1]; rfl) zgn.w27 (by rw [zrz (p := 0) hk6 (by omega), g2.1]; rfl)
  have e : ∀ p, p ≠ 0 → zp σ.1 k 0 v2 k p = σ.1 k p := fun p hp => zp_np hp
  obtain ⟨a0, a1, a2, a3, a4, a5, a6, a8, a9, a10, a11, a12, a13⟩ := hz
  exact ⟨by rw [zp_at]; exact hp, by rw [e 1 (by omega)]; exact a1, by rw [e 2 (by omega)]; exact a2, by rw [e 3 (by omega)]; exact a3, by rw [e 4 (by omega)]; exact a4, by rw [e 5 (by omega)]; exact a5, by rw [e 6 (by omega)]; exact a6, by rw [e 8 (by omega)]; exact a8, by rw [e 9 (by omega)]; exact a9, by rw [e 10 (by omega)]; exact a10, by rw [e 11 (by omega)]; exact a11, fun q hq => by rw [e (12 + q) (by omega)]; exact a12 q hq, by rw [e 8 (by omega), e 6 (by omega)]; exact fun h8 q hq => by rw [e (12 + q) (by omega)]; exact a13 h8 q hq⟩
/-! orders -/
def zwhy (A : zA) (v a b : Int32) : Int32 := if zhas A v then (if zwin a (-3) 3 then (if zwin b (-3) 3 then (if zfly A (zN v) then 0 else -5) else -2) else -2) else -1
theorem i_m3 : (-3 : Int32).toInt = -3 := rfl
theorem i_3 : (3 : Int32).toInt = 3 := rfl
theorem e6_why {M : zM} {σ : zSg} {v a b : Int32} (h0 : zOK σ) (h1 : zCR M σ) : fX6_errorOfOrder M v a b = some (zwhy σ.1 v a b, M) := by
  unfold fX6_errorOfOrder zwhy
  rw [gH h0 h1, zC_some]
  cases hh : zhas σ.1 v with
  | false => rfl
  | true =>
    obtain ⟨k, hk, hk6, rfl⟩ := zhas_nI hh h0.1.2.1
    rw [if_neg (by decide), if_pos rfl, e2_within, zC_some, i_m3, i_3]
    cases ha : zwin a (-3) 3 with
    | false => rfl
    | true =>
      rw [if_neg (by decide), if_pos rfl, e2_within, zC_some, i_m3, i_3]
      cases hb : zwin b (-3) 3 with
      | false => rfl
      | true =>
        rw [if_neg (by decide), if_pos rfl, gF h0 h1 hk6, zC_some, zN_nI (by omega)]
        cases hf : zfly σ.1 k <;> rfl
theorem e7_why {N : zM} {σ : zSg} {v a b : Int32} (h0 : zOK σ) (h2 : zRR N σ) : fX7_whyNotOrdered N v a b = some (zwhy σ.1 v a b, N) := by
  unfold fX7_whyNotOrdered zwhy fX7_isStep
  rw [gK h0 h2, zC_some]
  cases hh : zhas σ.1 v with
  | false => rfl
  | true =>
    obtain ⟨k, hk, hk6, rfl⟩ := zhas_nI hh h0.1.2.1
    rw [if_neg (by decide), if_pos rfl, e7_within, zC_some, zB_zb, zC_some, i_m3, i_3]
    cases ha : zwin a (-3) 3 with
    | false => rfl
    | true =>
      rw [if_neg (by decide), if_pos rfl, e7_within, zC_some, zB_zb, zC_some, i_m3, i_3]
      cases hb : zwin b (-3) 3 with
      | false => rfl
      | true =>
        rw [if_neg (by decide), if_pos rfl, gG h0 h2 hk, zC_some, zN_nI (by omega)]
        cases hf : zfly σ.1 k <;> rfl
theorem zwhy_0 {A : zA} {v a b : Int32} (h : zwhy A v a b = 0) (hK : zKn A ≤ 6) : ∃ k, k < zKn A ∧ k < 6 ∧ v = nI k ∧ zwin a (-3) 3 = true ∧ zwin b (-3) 3 = true ∧ zfly A k = true := by
  unfold zwhy at h
  by_cases h1 : zhas A v = true
  · rw [if_pos h1] at h
    by_cases h2 : zwin a (-3) 3 = true
    · rw [if_pos h2] at h
      by_cases h3 : zwin b (-3) 3 = true
      · rw [if_pos h3] at h
        by_cases h4 : zfly A (zN v) = true
        · obtain ⟨k, hk, hk6, rfl⟩ := zhas_nI h1 hK
          rw [zN_nI (by omega)] at h4
          exact ⟨k, hk, hk6, rfl, h2, h3, h4⟩
        · rw [if_neg h4] at h; exact absurd h (by decide)
      · rw [if_neg h3] at h; exact absurd h (by decide)
    · rw [if_neg h2] at h; exact absurd h (by decide)
  · rw [if_neg h1] at h; exact absurd h (by decide)
theorem zwhy_n {A : zA} {v a b : Int32} (h : ¬ zwhy A v a b = 0) : ¬ (0 : Int32) ≤ zwhy A v a b := by
  unfold zwhy at h ⊢
  split
  · split
    · split
      · split
        · rename_i h1 h2 h3 h4
          rw [if_pos h1, if_pos h2, if_pos h3, if_pos h4] at h
          exact absurd rfl h
        · decide
      · decide
    · decide
  · decide
def ztn3 (A : zA) (k : Nat) (a b : Int32) : zA := zp (zp A k 3 a) k 4 b
def ztv (A : zA) (k : Nat) (a b : Int32) : Int32 := 10 * zabs (a - A k 3) + zabs (b - A k 4)
theorem e2_turn {M : zM} {j k : Nat} {a b : Int32} (hk : k < 6) : ∃ M', fX2_turn M j (nI k) a b = some (ztv (zcA M j) k a b, M') ∧ zcA M' j = ztn3 (zcA M j) k a b ∧ zfk j M M' := by
  unfold fX2_turn ztv ztn3
  simp only [zI_eq (zix_nI hk (show 6 < 2 ^ 31 by omega)), zL_eq, zN_nI (show k < 2 ^ 31 by omega), zr3 hk, zr4 hk]
  exact ⟨_, rfl, by rw [zc4 hk, zc3 hk], (zfk.w (by omega)).trans (zfk.w (by omega))⟩
theorem zabs_sym {x y : Int32} (hx : -1000 ≤ x.toInt ∧ x.toInt ≤ 1000) (hy : -1000 ≤ y.toInt ∧ y.toInt ≤ 1000) : zabs (x - y) = zabs (y - x) := by
  rw [zabs_nI (zt_sub (x := x) (y := y) rfl rfl (by omega) (by omega)) (by omega), zabs_nI (zt_sub (x := y) (y := x) rfl rfl (by omega) (by omega)) (by omega)]
  congr 1
  omega
theorem e7_orders {N : zM} {k : Nat} {a b : Int32} (hk : k < 6) (hz : zkite (zrA (N 27 0)) k) (ha : zwin a (-3) 3 = true) (hb : zwin b (-3) 3 = true) : ∃ N', fX7_orders N (nI k) a b = some (ztv (zrA (N 27 0)) k a b, N') ∧ zrA (N' 27 0) = ztn3 (zrA (N 27 0)) k a b ∧ zf27 N N' := by
  rw [zwin_iff] at ha hb
  obtain ⟨_, _, _, h3, h4, _⟩ := hz
  unfold fX7_orders ztv ztn3
  simp only [e7_p3 hk, e7_p4 hk, e7_size, zC_some, zL_eq, e7_s3 hk, e7_s4 hk]
  rw [zabs_sym (x := a) (by omega) (by omega), zabs_sym (x := b) (by omega) (by omega)]
  refine ⟨_, rfl, by rw [zrz hk (by omega), zrz hk (by omega)], fun k' i' h => ?_⟩
  rw [zw_ne (by omega), zw_ne (by omega)]
theorem ztn3_kite {A : zA} {k : Nat} {a b : Int32} (ha : zwin a (-3) 3 = true) (hb : zwin b (-3) 3 = true) (hz : zkite A k) : zkite (ztn3 A k a b) k := by
  rw [zwin_iff] at ha hb
  have e : ∀ p, p ≠ 3 → p ≠ 4 → ztn3 A k a b k p = A k p := fun p hp hq => by unfold ztn3; rw [zp_np hq, zp_np hp]
  have e3 : ztn3 A k a b k 3 = a := by unfold ztn3; rw [zp_np (by omega), zp_at]
  have e4 : ztn3 A k a b k 4 = b := by unfold ztn3; rw [zp_at]
  obtain ⟨a0, a1, a2, a3, a4, a5, a6, a8, a9, a10, a11, a12, a13⟩ := hz
  exact ⟨by rw [e 0 (by omega) (by omega)]; exact a0, by rw [e 1 (by omega) (by omega)]; exact a1, by rw [e 2 (by omega) (by omega)]; exact a2, by rw [e3]; exact ha, by rw [e4]; exact hb, by rw [e 5 (by omega) (by omega)]; exact a5, by rw [e 6 (by omega) (by omega)]; exact a6, by rw [e 8 (by omega) (by omega)]; exact a8, by rw [e 9 (by omega) (by omega)]; exact a9, by rw [e 10 (by omega) (by omega)]; exact a10, by rw [e 11 (by omega) (by omega)]; exact a11, fun q hq => by rw [e (12 + q) (by omega) (by omega)]; exact a12 q hq, by rw [e 8 (by omega) (by omega), e 6 (by omega) (by omega)]; exact fun h8 q hq => by rw [e (12 + q) (by omega) (by omega)]; exact a13 h8 q hq⟩
theorem ztn3_ok {A : zA} {k : Nat} {a b : Int32} (h : zok A) (hk : k < 6) (ha : zwin a (-3) 3 = true) (hb : zwin b (-3) 3 = true) : zok (ztn3 A k a b) :=
  zok_row (k := k) h (fun k' p hne => by unfold ztn3; rw [zp_nk hne, zp_nk hne]) hk fun _ hz => ztn3_kite ha hb hz
theorem j_order {M N : zM} {σ : zSg} {v a b : Int32} (h0 : zOK σ) (h1 : zCR M σ) (h2 : zRR N σ) : zJ (fX6_order M v a b) (fX7_order N v a b) M N := by
  unfold fX6_order fX7_order
  rw [e6_why h0 h1, e7_why h0 h2, zC_some, zC_some]
  by_cases hc : zwhy σ.1 v a b = 0
  · rw [hc, if_pos rfl, if_pos (by decide)]
    obtain ⟨k, hk, hk6, rfl, ha, hb, hf⟩ := zwhy_0 hc h0.1.2.1
    refine zJ.rec h0 h1 h2 fun M1 N1 g0 g1 g2 => ?_
    obtain ⟨M2, e1, c1, f1⟩ := e2_turn (M := M1) (j := 0) (a := a) (b := b) hk6
    obtain ⟨N2, e2, c2, f2⟩ := e7_orders (N := N1) (a := a) (b := b) hk6 (by rw [g2.1]; exact g0.1.2.2 k hk) ha hb
    rw [e1, e2, zC_some, zC_some, g1.1, g2.1]
    rw [g1.1] at c1
    rw [g2.1] at c2
    exact zJ.fin g0 g1 g2 (ztn3_ok g0.1 hk6 ha hb) (f1.gs (by omega)) c1 f2.gn c2
  · rw [if_neg hc, if_neg (zwhy_n hc)]
    exact zJ.ret h0 h1 h2
