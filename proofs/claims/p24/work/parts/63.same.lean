/-! ===== the law's comparison ===== -/
def zSt (M : zM) (A : zA) : Prop := zIA M A ∧ zLA 26 M = A
theorem zSt.q {o : Option (Int32 × zM)} {M : zM} {A : zA} {x : Int32} (hs : zSt M A) (h : zP o M x A) : ∃ M', o = some (x, M') ∧ zSt M' A ∧ zhi M M' := by
  obtain ⟨M', e, i, f⟩ := h
  exact ⟨M', e, ⟨i, by rw [zLA_eq (fun k h1 h2 => f k 0 (by omega))]; exact hs.2⟩, f⟩
theorem zSt.ok {M : zM} {A : zA} (h : zSt M A) : zok A := h.1.ok
theorem zSt.r {M : zM} {A : zA} (h : zSt M A) {k p : Nat} (hk : k < 4) (hp : p < 12) : M 27 0 (12 * k + p) = A k p := by rw [← h.2]; exact zla (b := 26) hk hp
theorem zSt.n {M : zM} {A : zA} (h : zSt M A) : M 26 0 (zN 0) = nI (zKn A) := zlK h.2 h.ok.1
def zsm (A : zA) (k : Nat) : Nat → Int32 × Int32 → Int32 × Int32
  | 0, s => s
  | c + 1, s => zsm A k c (if A k (12 + c) ≤ s.1 then s.1 else A k (12 + c), if A k (12 + c) < s.1 then s.2 else nI c)
theorem lS_w {A : zA} {k : Nat} (hk : k < zKn A) (h4 : zKn A ≤ 4) {a5 a6 a7 a8 a10 a11 a14 : Int32} (h11 : a11 = zb (zfly A k)) {kk : zM → Int32 → Int32 → Int32 → Option (Int32 × zM)} : ∀ (c n : Nat) (s : Int32 × Int32) (M : zM), c ≤ 32 → c < n → zSt M A →
    ∃ M', fL_same_L61 kk a5 a6 a7 a8 (nI k) a10 a11 a14 n M s.1 s.2 (zdn c) = kk M' (zsm A k c s).1 (zsm A k c s).2 (-1) ∧ zSt M' A ∧ zhi M M' := by
  intro c
  induction c with
  | zero =>
    intro n s M hc hn hs
    obtain ⟨n, rfl⟩ : ∃ q, n = q + 1 := ⟨n - 1, by omega⟩
    exact ⟨M, rfl, hs, zhi.refl⟩
  | succ c ih =>
    intro n s M hc hn hs
    obtain ⟨n, rfl⟩ : ∃ q, n = q + 1 := ⟨n - 1, by omega⟩
    have hk4 : k < 4 := by omega
    obtain ⟨M1, e1, s1, f1⟩ := hs.q (p_wear hs.1 hk (show c < 32 by omega))
    have wo := eL_worn (b := 26) (M := M) hk4 (show c < 32 by omega)
    rw [hs.2] at wo
    have ez : zdn (c + 1) = nI c := rfl
    have key : ∀ m t, (zC (fX6_wear M (nI k) (nI c)) fun r30 M29 => if a11 = 0 then (if r30 = (-5) then zL (nI c + (-1)) fun v33 => fL_same_L61 kk a5 a6 a7 a8 (nI k) a10 a11 a14 n M29 m t v33 else some (0, M29)) else (if r30 = A k (12 + c) then zL (nI c + (-1)) fun v35 => fL_same_L61 kk a5 a6 a7 a8 (nI k) a10 a11 a14 n M29 m t v35 else some (0, M29))) = fL_same_L61 kk a5 a6 a7 a8 (nI k) a10 a11 a14 n M1 m t (zdn c) := by
      intro m t
      rw [e1, zC_some, h11]
      cases hf : zfly A k with
      | false => rw [if_pos (show zb false = 0 from rfl), if_neg (show ¬ false = true by decide), if_pos rfl, zL_eq, zdn_step (by omega)]
      | true => rw [if_neg (show ¬ zb true = 0 by decide), if_pos rfl, if_pos rfl, zL_eq, zdn_step (by omega)]
    have step : ∀ R, R = fL_same_L61 kk a5 a6 a7 a8 (nI k) a10 a11 a14 n M1 (if A k (12 + c) ≤ s.1 then s.1 else A k (12 + c)) (if A k (12 + c) < s.1 then s.2 else nI c) (zdn c) → fL_same_L61 kk a5 a6 a7 a8 (nI k) a10 a11 a14 (n + 1) M s.1 s.2 (nI c) = R := by
      intro R hR
      unfold fL_same_L61
      rw [if_neg (nI_pos (by omega)), wo, zC_some]
      by_cases h1 : A k (12 + c) < s.1
      · rw [if_pos h1]
        by_cases h2 : A k (12 + c) ≤ s.1
        · rw [if_pos h2]; rw [if_pos h2, if_pos h1] at hR; rw [hR]; exact key _ _
        · rw [if_neg h2]; rw [if_neg h2, if_pos h1] at hR; rw [hR]; exact key _ _
      · rw [if_neg h1]
        by_cases h2 : A k (12 + c) ≤ s.1
        · rw [if_pos h2]; rw [if_pos h2, if_neg h1] at hR; rw [hR]; exact key _ _
        · rw [if_neg h2]; rw [if_neg h2, if_neg h1] at hR; rw [hR]; exact key _ _
    rw [ez, step _ rfl]
    obtain ⟨M2, e2, s2, f2⟩ := ih n (if A k (12 + c) ≤ s.1 then s.1 else A k (12 + c), if A k (12 + c) < s.1 then s.2 else nI c) M1 (by omega) (by omega) s1
    exact ⟨M2, e2, s2, f1.trans f2⟩
theorem zsm_is {A : zA} {k : Nat} (hz : ∀ q, q < 32 → 0 ≤ (A k (12 + q)).toInt) : zsm A k 32 (0, 0) = (zgw A k, nI (zmw A k)) := by
  have key : ∀ (c : Nat) (s : Int32 × Int32), c ≤ 32 → (∀ q, c ≤ q → q < 32 → (A k (12 + q)).toInt ≤ s.1.toInt) → ((c = 32 ∧ s.1 = 0) ∨ ∃ m, c ≤ m ∧ m < 32 ∧ s.2 = nI m ∧ s.1 = A k (12 + m) ∧ ∀ q, c ≤ q → q < m → (A k (12 + q)).toInt < (A k (12 + m)).toInt) → ∃ m, m < 32 ∧ zsm A k c s = (A k (12 + m), nI m) ∧ (∀ q, q < 32 → (A k (12 + q)).toInt ≤ (A k (12 + m)).toInt) ∧ ∀ q, q < m → (A k (12 + q)).toInt < (A k (12 + m)).toInt := by
    intro c
    induction c with
    | zero =>
      intro s _ h1 h2
      rcases h2 with ⟨h2, _⟩ | ⟨m, _, m2, m3, m4, m5⟩
      · omega
      · refine ⟨m, m2, ?_, fun q hq => ?_, fun q hq => m5 q (by omega) hq⟩
        · show s = _; rw [← m4, ← m3]
        · rw [← m4]; exact h1 q (by omega) hq
    | succ c ih =>
      intro s hc h1 h2
      show ∃ m, m < 32 ∧ zsm A k c (if A k (12 + c) ≤ s.1 then s.1 else A k (12 + c), if A k (12 + c) < s.1 then s.2 else nI c) = (A k (12 + m), nI m) ∧ _
      refine ih _ (by omega) (fun q q1 q2 => ?_) (Or.inr ?_)
      · show (A k (12 + q)).toInt ≤ (if A k (12 + c) ≤ s.1 then s.1 else A k (12 + c)).toInt
        by_cases a : A k (12 + c) ≤ s.1
        · rw [if_pos a]
          by_cases hq : q = c
          · subst hq; rw [zle_i] at a; exact a
          · exact h1 q (by omega) q2
        · rw [if_neg a]
          rw [zle_i] at a
          by_cases hq : q = c
          · subst hq; exact Int.le_refl _
          · have := h1 q (by omega) q2; omega
      · show ∃ m, c ≤ m ∧ m < 32 ∧ (if A k (12 + c) < s.1 then s.2 else nI c) = nI m ∧ (if A k (12 + c) ≤ s.1 then s.1 else A k (12 + c)) = A k (12 + m) ∧ _
        have hzc := hz c (by omega)
        by_cases a : A k (12 + c) < s.1
        · rcases h2 with ⟨_, h3⟩ | ⟨m, m1, m2, m3, m4, m5⟩
          · rw [zlt_i, h3, Int32_0] at a; omega
          · rw [if_pos a, if_pos (show A k (12 + c) ≤ s.1 by rw [zlt_i] at a; rw [zle_i]; omega)]
            refine ⟨m, by omega, m2, m3, m4, fun q q1 q2 => ?_⟩
            by_cases hq : q = c
            · subst hq; rw [zlt_i, m4] at a; exact a
            · exact m5 q (by omega) q2
        · rw [if_neg a]
          refine ⟨c, Nat.le_refl _, by omega, rfl, ?_, fun q q1 q2 => by omega⟩
          by_cases b : A k (12 + c) ≤ s.1
          · rw [if_pos b]
            rw [zlt_i] at a; rw [zle_i] at b
            exact Int32.toInt_inj.mp (by omega)
          · rw [if_neg b]
  obtain ⟨m, m1, m2, m3, m4⟩ := key 32 (0, 0) (by omega) (fun q h1 h2 => by omega) (Or.inl ⟨rfl, rfl⟩)
  obtain ⟨w1, w2, w3⟩ := zmw_spec (A := A) (k := k)
  have hm : m = zmw A k := by
    rcases Nat.lt_trichotomy m (zmw A k) with h | h | h
    · have := w3 m h; have := m3 (zmw A k) w1; omega
    · exact h
    · have := m4 (zmw A k) h; have := w2 m m1; omega
  rw [m2, zgw_mw hz, hm]
/-! the row of crossings -/
def zx1p (A : zA) (k : Nat) : Nat → Int32 → Int32 := fun o p => if zcr A k o = true ∧ o < k then p + 1 else p
def zx2p (A : zA) (k : Nat) : Nat → Int32 → Int32 := fun o m => if zcr A k o = true then m ||| zbit o else m
theorem zadd0 (x : Int32) : x + 0 = x := Int32.add_zero x
theorem zcr_ff {A : zA} {k o : Nat} (h : zcr A k o = true) : zfly A k = true ∧ zfly A o = true := by
  unfold zcr at h
  rw [Bool.and_eq_true, Bool.and_eq_true] at h
  exact h.1
theorem lS_x {A : zA} {k : Nat} (hk : k < zKn A) (h4 : zKn A ≤ 4) {a5 a7 a8 a10 a11 a12 a13 : Int32} (h11 : a11 = zb (zfly A k)) {kk : zM → Int32 → Int32 → Int32 → Option (Int32 × zM)} : ∀ (c o n : Nat) (p m : Int32) (M : zM), o + c = zKn A → c < n → zSt M A →
    ∃ M', fL_same_L144 kk a5 a7 a8 (nI k) a10 a11 a12 a13 n M p m (nI o) = kk M' (zf (zx1p A k) c o p) (zf (zx2p A k) c o m) (nI (zKn A)) ∧ zSt M' A ∧ zhi M M' := by
  intro c
  induction c with
  | zero =>
    intro o n p m M ho hn hs
    obtain ⟨n, rfl⟩ : ∃ q, n = q + 1 := ⟨n - 1, by omega⟩
    have ho' : o = zKn A := by omega
    refine ⟨M, ?_, hs, zhi.refl⟩
    unfold fL_same_L144
    rw [zI_eq (by decide), hs.n, ho', if_pos (by rw [zle (by omega) (by omega)]; omega)]
    rfl
  | succ c ih =>
    intro o n p m M ho hn hs
    obtain ⟨n, rfl⟩ : ∃ q, n = q + 1 := ⟨n - 1, by omega⟩
    have hk4 : k < 4 := by omega
    have hoK : o < zKn A := by omega
    have ho4 : o < 4 := by omega
    unfold fL_same_L144
    rw [zI_eq (by decide), hs.n, if_neg (by rw [zle (by omega) (by omega)]; omega)]
    show ∃ M', _ = kk M' (zf (zx1p A k) c (o + 1) (zx1p A k o p)) (zf (zx2p A k) c (o + 1) (zx2p A k o m)) (nI (zKn A)) ∧ zSt M' A ∧ zhi M M'
    by_cases hok : o = k
    · have e1 : zx1p A k o p = p := by unfold zx1p; rw [if_neg (fun q => by omega)]
      have e2 : zx2p A k o m = m := by unfold zx2p; rw [hok, zcr_self, if_neg (by decide)]
      rw [if_pos (by rw [hok]), zL_eq, nI_1, e1, e2]
      exact ih (o + 1) n p m M (by omega) (by omega) hs
    have hne : k ≠ o := fun q => hok q.symm
    rw [if_neg (by rw [zeq (by omega) (by omega)]; exact hok), eL_place (b := 26) hs.2 (hs.ok.2.2 k hk).kp (hs.ok.2.2 o hoK).kp h4 hk hoK hne, zC_some]
    have sl : ∀ M, zSt M A → fL_sliding M (nI k) (nI o) 27 = some (zsl A k o, M) := fun M hs => by
      have := eL_sliding (b := 26) (M := M) hk4 ho4
      rw [hs.2] at this; exact this
    cases hc : zcr A k o with
    | true =>
      obtain ⟨y1, y2, y3⟩ := zpa_yes hc
      obtain ⟨fk, fo⟩ := zcr_ff hc
      have hc' : zcr A o k = true := by rw [zcr_sym]; exact hc
      have ha11 : ¬ a11 = 0 := by rw [h11, fk]; decide
      have o8 : A o 8 = 0 := (zfly_lt fo).2
      have e2 : zx2p A k o m = m ||| zbit o := by unfold zx2p; rw [hc, if_pos rfl]
      -- the six questions
      obtain ⟨M1, q1, s1, f1⟩ := hs.q (p_crossing (n := 0) hs.1 hk hoK hne (by omega) fk fo)
      obtain ⟨M2, q2, s2, f2⟩ := s1.q (p_crossing (n := 1) s1.1 hk hoK hne (by omega) fk fo)
      obtain ⟨M3, q3, s3, f3⟩ := s2.q (p_crossing (n := 2) s2.1 hoK hk (fun q => hne q.symm) (by omega) fo fk)
      obtain ⟨M4, q4, s4, f4⟩ := s3.q (p_crossing (n := 3) s3.1 hk hoK hne (by omega) fk fo)
      obtain ⟨M5, q5, s5, f5⟩ := s4.q (p_crossing (n := 4) s4.1 hk hoK hne (by omega) fk fo)
      obtain ⟨M6, q6, s6, f6⟩ := s5.q (p_crossing (n := 5) s5.1 hk hoK hne (by omega) fk fo)
      have v0 : zxa A k o 0 = 1 := by show zb (zcr A k o) = 1; rw [hc]; rfl
      have v1 : zxa A k o 1 = nI (zpl A k o) := by show (if zcr A k o = true then nI (zpl A k o) else -6) = _; rw [if_pos hc]
      have v2 : zxa A o k 2 = nI (zpl A k o) := by show (if zcr A o k = true then nI (zpl A k o) else -6) = _; rw [if_pos hc']
      have v3 : zxa A k o 3 = zb (zst A k o) := by show (if zcr A k o = true then zb (zst A k o) else -6) = _; rw [if_pos hc]
      have v4 : zxa A k o 4 = zsl A k o := rfl
      have v5 : zxa A k o 5 = zrb A k o := by show (if zcr A k o = true then zrb A k o else 0) = _; rw [if_pos hc]
      rw [v0] at q1
      rw [v1] at q2
      rw [v2] at q3
      rw [v3] at q4
      rw [v4] at q5
      rw [v5] at q6
      have q1' : fX6_crossing M (nI k) (nI o) 0 = some (1, M1) := q1
      have q2' : fX6_crossing M1 (nI k) (nI o) 1 = some (nI (zpl A k o), M2) := q2
      have q3' : fX6_crossing M2 (nI o) (nI k) 2 = some (nI (zpl A k o), M3) := q3
      have q4' : fX6_crossing M3 (nI k) (nI o) 3 = some (zb (zst A k o), M4) := q4
      have q5' : fX6_crossing M4 (nI k) (nI o) 4 = some (zsl A k o, M5) := q5
      have q6' : fX6_crossing M5 (nI k) (nI o) 5 = some (zrb A k o, M6) := q6
      have r5 : M6 27 0 (12 * o + 5) = A o 5 := s6.r ho4 (by omega)
      have fin : ∀ (p' : Int32), p' = zx1p A k o p → ∃ M', fL_same_L144 kk a5 a7 a8 (nI k) a10 a11 a12 a13 n M6 p' (m ||| zbit o) (nI (o + 1)) = kk M' (zf (zx1p A k) c (o + 1) (zx1p A k o p)) (zf (zx2p A k) c (o + 1) (m ||| zbit o)) (nI (zKn A)) ∧ zSt M' A ∧ zhi M M' := by
        intro p' hp'
        rw [hp']
        obtain ⟨M', e, s', f⟩ := ih (o + 1) n (zx1p A k o p) (m ||| zbit o) M6 (by omega) (by omega) s6
        exact ⟨M', e, s', f1.trans (f2.trans (f3.trans (f4.trans (f5.trans (f6.trans f)))))⟩
      have zb1 : zbit o = 1 <<< (nI o &&& 31) := rfl
      have hrb : zrb A k o = if zst A k o = true then 2 * (A o 5 * zsl A k o) else A o 5 * zsl A k o := rfl
      rw [e2, if_pos (show 0 ≤ zpa A k o from by
        have hneg : ¬ zpa A k o < 0 := fun q => by rw [zpa_neg, hc] at q; cases q
        rw [zlt_i] at hneg; rw [zle_i]; omega), zL_eq, ← zb1]
      by_cases hko : k ≤ o
      · have e1 : zx1p A k o p = p := by unfold zx1p; rw [if_neg (fun q => by omega)]
        rw [if_pos (by rw [zle (by omega) (by omega)]; exact hko), zL_eq, zadd0, if_neg ha11, zx8, zxI ho4 (by omega), zxN ho4 (by omega), hs.r ho4 (show 8 < 12 by omega), if_pos o8, q1', zC_some, if_pos rfl, q2', zC_some, if_pos y1.symm, q3', zC_some, if_pos y1.symm, q4', zC_some, if_pos y3.symm, q5', zC_some, sl M5 s5, zC_some, if_pos rfl, q6', zC_some, zx5, zxI ho4 (by omega), sl M6 s6, zC_some, zxN ho4 (by omega), r5]
        cases hst : zst A k o with
        | false =>
          rw [if_pos (y2.mpr hst), hrb, hst, if_neg (show ¬ false = true by decide), Int32.mul_one, if_pos rfl, zL_eq, nI_1]
          exact fin p e1.symm
        | true =>
          rw [if_neg (fun q => by rw [y2, hst] at q; cases q), hrb, hst, if_pos (show true = true from rfl), Int32.mul_comm (A o 5 * zsl A k o) 2, if_pos rfl, zL_eq, nI_1]
          exact fin p e1.symm
      · have e1 : zx1p A k o p = p + 1 := by unfold zx1p; rw [if_pos ⟨hc, by omega⟩]
        rw [if_neg (by rw [zle (by omega) (by omega)]; exact hko), zL_eq, if_neg ha11, zx8, zxI ho4 (by omega), zxN ho4 (by omega), hs.r ho4 (show 8 < 12 by omega), if_pos o8, q1', zC_some, if_pos rfl, q2', zC_some, if_pos y1.symm, q3', zC_some, if_pos y1.symm, q4', zC_some, if_pos y3.symm, q5', zC_some, sl M5 s5, zC_some, if_pos rfl, q6', zC_some, zx5, zxI ho4 (by omega), sl M6 s6, zC_some, zxN ho4 (by omega), r5]
        cases hst : zst A k o with
        | false =>
          rw [if_pos (y2.mpr hst), hrb, hst, if_neg (show ¬ false = true by decide), Int32.mul_one, if_pos rfl, zL_eq, nI_1]
          exact fin (p + 1) e1.symm
        | true =>
          rw [if_neg (fun q => by rw [y2, hst] at q; cases q), hrb, hst, if_pos (show true = true from rfl), Int32.mul_comm (A o 5 * zsl A k o) 2, if_pos rfl, zL_eq, nI_1]
          exact fin (p + 1) e1.symm
    | false =>
      have e1 : zx1p A k o p = p := by unfold zx1p; rw [if_neg (fun q => by rw [hc] at q; exact absurd q.1 (by decide))]
      have e2 : zx2p A k o m = m := by unfold zx2p; rw [hc, if_neg (by decide)]
      have hneg := zpa_neg.mpr hc
      rw [e1, e2, if_neg (show ¬ 0 ≤ zpa A k o by rw [zlt_i] at hneg; rw [zle_i]; omega), zL_eq, or0, zL_eq, zadd0, h11]
      cases fk : zfly A k with
      | false =>
        rw [if_pos (show zb false = 0 from rfl), zL_eq, nI_1]
        rw [← fk, ← h11]
        exact ih (o + 1) n p m M (by omega) (by omega) hs
      | true =>
        rw [if_neg (show ¬ zb true = 0 by decide), zx8, zxI ho4 (by omega), zxN ho4 (by omega), hs.r ho4 (show 8 < 12 by omega)]
        rw [← fk, ← h11]
        by_cases o8 : A o 8 = 0
        · have fo : zfly A o = true := by rw [zfly_is hoK]; exact decide_eq_true o8
          have hc' : ¬ zcr A o k = true := by rw [zcr_sym, hc]; decide
          have hc2 : ¬ zcr A k o = true := by rw [hc]; decide
          obtain ⟨M1, q1, s1, f1⟩ := hs.q (p_crossing (n := 0) hs.1 hk hoK hne (by omega) fk fo)
          obtain ⟨M2, q2, s2, f2⟩ := s1.q (p_crossing (n := 1) s1.1 hk hoK hne (by omega) fk fo)
          obtain ⟨M3, q3, s3, f3⟩ := s2.q (p_crossing (n := 2) s2.1 hoK hk (fun q => hne q.symm) (by omega) fo fk)
          obtain ⟨M4, q4, s4, f4⟩ := s3.q (p_crossing (n := 3) s3.1 hk hoK hne (by omega) fk fo)
          obtain ⟨M5, q5, s5, f5⟩ := s4.q (p_crossing (n := 4) s4.1 hk hoK hne (by omega) fk fo)
          obtain ⟨M6, q6, s6, f6⟩ := s5.q (p_crossing (n := 5) s5.1 hk hoK hne (by omega) fk fo)
          have v0 : zxa A k o 0 = 0 := by show zb (zcr A k o) = 0; rw [hc]; rfl
          have v1 : zxa A k o 1 = -6 := by show (if zcr A k o = true then nI (zpl A k o) else -6) = _; rw [if_neg hc2]
          have v2 : zxa A o k 2 = -6 := by show (if zcr A o k = true then nI (zpl A k o) else -6) = _; rw [if_neg hc']
          have v3 : zxa A k o 3 = -6 := by show (if zcr A k o = true then zb (zst A k o) else -6) = _; rw [if_neg hc2]
          have v4 : zxa A k o 4 = zsl A k o := rfl
          have v5 : zxa A k o 5 = 0 := by show (if zcr A k o = true then zrb A k o else 0) = _; rw [if_neg hc2]
          rw [v0] at q1
          rw [v1] at q2
          rw [v2] at q3
          rw [v3] at q4
          rw [v4] at q5
          rw [v5] at q6
          have q1' : fX6_crossing M (nI k) (nI o) 0 = some (0, M1) := q1
          have q2' : fX6_crossing M1 (nI k) (nI o) 1 = some (-6, M2) := q2
          have q3' : fX6_crossing M2 (nI o) (nI k) 2 = some (-6, M3) := q3
          have q4' : fX6_crossing M3 (nI k) (nI o) 3 = some (-6, M4) := q4
          have q5' : fX6_crossing M4 (nI k) (nI o) 4 = some (zsl A k o, M5) := q5
          have q6' : fX6_crossing M5 (nI k) (nI o) 5 = some (0, M6) := q6
          rw [if_pos o8, q1', zC_some, if_pos rfl, q2', zC_some, if_pos rfl, q3', zC_some, if_pos rfl, q4', zC_some, if_pos rfl, q5', zC_some, sl M5 s5, zC_some, if_pos rfl, q6', zC_some, if_pos rfl, zL_eq, nI_1]
          obtain ⟨M', e, s', f⟩ := ih (o + 1) n p m M6 (by omega) (by omega) s6
          exact ⟨M', e, s', f1.trans (f2.trans (f3.trans (f4.trans (f5.trans (f6.trans f)))))⟩
        · rw [if_neg o8, zL_eq, nI_1]
          exact ih (o + 1) n p m M (by omega) (by omega) hs
