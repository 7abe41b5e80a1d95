/-! ===== what would come: the law's second rows ===== -/
theorem zlo.IA {M M' : zM} {A : zA} (h : zlo M M') (hi : zIA M A) : zIA M' A := by
  obtain ⟨σ, h0, h1, h2⟩ := hi
  exact ⟨σ, h0, h.CR h1, h2⟩
theorem zfm.lo {b : Nat} (hb : 26 ≤ b) {M M' : zM} (h : zfm b M M') : zlo M M' := fun k i hk => h k i (by omega) (by omega)
theorem zfb.lo {b : Nat} (hb : 26 ≤ b) {M M' : zM} (h : zfb b M M') : zlo M M' := h.m.lo hb
theorem zSt.m {M M' : zM} {A : zA} (hs : zSt M A) (h : zfm 31 M M') : zSt M' A := ⟨(h.lo (by omega)).IA hs.1, by rw [zLA_eq (fun k h1 h2 => h k 0 (by omega) (by omega))]; exact hs.2⟩
theorem lL_cp {k1 n1 k2 n2 N : Nat} (hN1 : N ≤ n1) (hN2 : N ≤ n2) (h1 : n1 ≤ 1000) (h2 : n2 ≤ 1000) (hne : k1 ≠ k2) {k : zM → Int32 → Option (Unit × zM)} : ∀ (c i n : Nat) (M : zM), i + c = N → c < n →
    ∃ M', fL_copy_L2 k k1 n1 k2 n2 (nI N) n M (nI i) = k M' (nI N) ∧ (∀ kk ii, ¬ (kk = k2 ∧ ii = 0) → M' kk ii = M kk ii) ∧ ∀ s, M' k2 0 s = if i ≤ s ∧ s < N then M k1 0 s else M k2 0 s := by
  intro c
  induction c with
  | zero =>
    intro i n M hi hn
    obtain ⟨n, rfl⟩ : ∃ q, n = q + 1 := ⟨n - 1, by omega⟩
    obtain rfl : i = N := by omega
    refine ⟨M, ?_, fun _ _ _ => rfl, fun s => by rw [if_neg (by omega)]⟩
    unfold fL_copy_L2
    rw [if_pos (by rw [zle (by omega) (by omega)]; omega)]
  | succ c ih =>
    intro i n M hi hn
    obtain ⟨n, rfl⟩ : ∃ q, n = q + 1 := ⟨n - 1, by omega⟩
    unfold fL_copy_L2
    rw [if_neg (by rw [zle (by omega) (by omega)]; omega), zI_eq (zix_nI (by omega) (by omega)), zI_eq (zix_nI (by omega) (by omega)), zN_nI (by omega), zL_eq, zL_eq, nI_1]
    obtain ⟨M', e, f, g⟩ := ih (i + 1) n (zw M k2 0 i (M k1 0 i)) (by omega) (by omega)
    refine ⟨M', e, fun kk ii h => (f kk ii h).trans (zw_ne h), fun s => ?_⟩
    rw [g s, zw_at, zw_ne (by omega)]
    unfold upd
    by_cases h3 : s = i
    · subst h3
      rw [if_neg (by omega), if_pos rfl, if_pos (by omega)]
    · by_cases h4 : i + 1 ≤ s ∧ s < N
      · rw [if_pos h4, if_pos (by omega)]
      · rw [if_neg h4, if_neg h3, if_neg (by omega)]
theorem eL_copy {k1 n1 k2 n2 N : Nat} (hN1 : N ≤ n1) (hN2 : N ≤ n2) (h1 : n1 ≤ 1000) (h2 : n2 ≤ 1000) (hne : k1 ≠ k2) {M : zM} : ∃ M', fL_copy M k1 n1 k2 n2 (nI N) = some ((), M') ∧ (∀ kk ii, ¬ (kk = k2 ∧ ii = 0) → M' kk ii = M kk ii) ∧ ∀ s, s < N → M' k2 0 s = M k1 0 s := by
  unfold fL_copy
  obtain ⟨M', e, f, g⟩ := lL_cp hN1 hN2 h1 h2 hne (k := fun M24 v25 => some ((), M24)) N 0 2000 M (by omega) (by omega)
  exact ⟨M', e, f, fun s hs => by rw [g, if_pos (by omega)]⟩
theorem zLA_of {b b' : Nat} {M M' : zM} (h0 : ∀ s, s < 4 → M' b' 0 s = M b 0 s) (h1 : ∀ s, s < 48 → M' (b' + 1) 0 s = M (b + 1) 0 s) (h2 : ∀ s, s < 64 → M' (b' + 2) 0 s = M (b + 2) 0 s) (h3 : ∀ s, s < 64 → M' (b' + 3) 0 s = M (b + 3) 0 s) : zLA b' M' = zLA b M := by
  funext k p
  simp only [zLA]
  by_cases h4 : k < 4
  · rw [if_pos h4, if_pos h4]
    by_cases h12 : p < 12
    · rw [if_pos h12, if_pos h12, h1 _ (by omega)]
    · rw [if_neg h12, if_neg h12]
      by_cases h44 : p < 44
      · rw [if_pos h44, if_pos h44]
        by_cases h22 : k < 2
        · rw [if_pos h22, if_pos h22, h2 _ (by omega)]
        · rw [if_neg h22, if_neg h22, h3 _ (by omega)]
      · rw [if_neg h44, if_neg h44]
  · rw [if_neg h4, if_neg h4]
    by_cases h6 : k = 6
    · rw [if_pos h6, if_pos h6]
      by_cases hp : p < 4
      · rw [if_pos hp, if_pos hp, h0 _ hp]
      · rw [if_neg hp, if_neg hp]
    · rw [if_neg h6, if_neg h6]
/-! the told number -/
def zwt (B : zA) : Int32 := zcm B + 100 * zgm B
theorem zgotP_out {C : zA} (hK : zKn C ≤ 6) {k : Nat} (h : zKn C ≤ k) : zgotP C k = false := by
  unfold zgotP
  rw [List.any_eq_false]
  intro q hq
  have := (zcr_6 hK ((znt_mem hK).mp hq)).2.1
  simp [show k ≠ q.2 by omega]
theorem zm6_told : ∀ (b0 b1 b2 b3 c0 c1 c2 c3 : Bool), zir (zm6 b0 b1 b2 b3 false false + 100 * zm6 c0 c1 c2 c3 false false) 100 = zm6 b0 b1 b2 b3 false false ∧ (zm6 b0 b1 b2 b3 false false + 100 * zm6 c0 c1 c2 c3 false false) / 100 = zm6 c0 c1 c2 c3 false false ∧ (zm6 b0 b1 b2 b3 false false ≤ 0 → zm6 b0 b1 b2 b3 false false = 0) ∧ (zm6 b0 b1 b2 b3 false false + 100 * zm6 c0 c1 c2 c3 false false ≤ 0 → zm6 b0 b1 b2 b3 false false = 0) := by decide +kernel
theorem zwt_f {B : zA} (h : zok B) (h4 : zKn B ≤ 4) : zir (zwt B) 100 = zcm B ∧ zwt B / 100 = zgm B ∧ (zcm B ≤ 0 ↔ zcm B = 0) ∧ (zwt B ≤ 0 → zcm B = 0) := by
  have hK : zKn (zvC B) = zKn B := zvC_Kn h.2.1
  have p4 : zcutP (zvC B) 4 = false := zcutP_out (by omega) (by omega)
  have p5 : zcutP (zvC B) 5 = false := zcutP_out (by omega) (by omega)
  have g4 : zgotP (zvC B) 4 = false := zgotP_out (by omega) (by omega)
  have g5 : zgotP (zvC B) 5 = false := zgotP_out (by omega) (by omega)
  have t := zm6_told (zcutP (zvC B) 0) (zcutP (zvC B) 1) (zcutP (zvC B) 2) (zcutP (zvC B) 3) (zgotP (zvC B) 0) (zgotP (zvC B) 1) (zgotP (zvC B) 2) (zgotP (zvC B) 3)
  unfold zwt zcm zgm
  rw [zmk_6, zmk_6, p4, p5, g4, g5]
  obtain ⟨t1, t2, t3, t4⟩ := t
  exact ⟨t1, t2, ⟨t3, fun q => by rw [q]; exact Int32.le_refl _⟩, t4⟩
/-! the loop of 300 ticks, number by number -/
def zwm (q : Bool) (a b : Nat) : Nat → Nat → zA → Int32 → Int32
  | 0, _, _, x => x
  | c + 1, i, B, x => zwm q a b c (i + 1) (zTk B) (if q = true ∧ x < 0 ∧ zcr (zvC B) a b = true then nI i else x)
def zwc : Nat → Nat → zA → Int32 × Int32 → Int32 × Int32
  | 0, _, _, s => s
  | c + 1, i, B, s => zwc c (i + 1) (zTk B) (if s.1 = 0 ∧ ¬ zcm B = 0 then (zwt B, nI i) else s)
def zwso (T : Nat) : Nat → Nat → zA → Int32 → Int32
  | 0, _, _, s => s
  | c + 1, i, B, s => zwso T c (i + 1) (zTk B) (if i ≤ T then s ||| zcm B else s)
def zwpf (B A : zA) : Nat → Int32 → Int32 := fun q p => p + (B q 7 - A q 7)
def zwp (T : Nat) (A : zA) : Nat → Nat → zA → Int32 → Int32
  | 0, _, _, p => p
  | c + 1, i, B, p => zwp T A c (i + 1) (zTk B) (if i = T then zf (zwpf (zTk B) A) (zKn A) 0 p else p)
theorem lW_p {M : zM} {A B : zA} (h4 : zKn A ≤ 4) (hs : zSt M A) (hB : zLA 31 M = B) {a11 a12 a13 a14 a15 a16 a17 a18 a20 : Int32} {kk : zM → Int32 → Int32 → Option (Int32 × zM)} : ∀ (c q n : Nat) (p : Int32), q + c = zKn A → c < n →
    fL_would_L246 kk a11 a12 a13 a14 a15 a16 a17 a18 a20 n M p (nI q) = kk M (zf (zwpf B A) c q p) (nI (zKn A)) := by
  intro c
  induction c with
  | zero =>
    intro q n p hq hn
    obtain ⟨n, rfl⟩ : ∃ q, n = q + 1 := ⟨n - 1, by omega⟩
    have hq' : q = zKn A := by omega
    unfold fL_would_L246
    rw [zI_eq (by decide), hs.n, hq', if_pos (by rw [zle (by omega) (by omega)]; omega)]
    rfl
  | succ c ih =>
    intro q n p hq hn
    obtain ⟨n, rfl⟩ : ∃ q, n = q + 1 := ⟨n - 1, by omega⟩
    have hq4 : q < 4 := by omega
    have r2 : M 32 0 (12 * q + 7) = B q 7 := by rw [← hB]; exact zla (b := 31) hq4 (by omega)
    unfold fL_would_L246
    rw [zI_eq (by decide), hs.n, if_neg (by rw [zle (by omega) (by omega)]; omega), zx7, zxI hq4 (by omega), zxI hq4 (by omega), zxN hq4 (by omega), r2, hs.r hq4 (show 7 < 12 by omega), zL_eq, zL_eq, nI_1]
    exact ih (q + 1) n _ (by omega) (by omega)
theorem eL_J236 {M : zM} {A B : zA} (h4 : zKn A ≤ 4) (hs : zSt M A) (hB : zLA 31 M = B) {a b q x cc w sm p : Int32} {i T : Nat} (hi : i ≤ 300) (hT : T ≤ 60) {rec k : zM → Int32 → Int32 → Int32 → Int32 → Int32 → Int32 → Option (Int32 × zM)} :
    fL_would_J236 rec k M a b q x cc w (nI T) sm p (nI i) = rec M x cc w sm (if i = T then zf (zwpf B A) (zKn A) 0 p else p) (nI (i + 1)) := by
  unfold fL_would_J236
  by_cases h : i = T
  · rw [if_pos (by rw [h]), if_pos h, show (0 : Int32) = nI 0 from rfl, lW_p h4 hs hB (zKn A) 0 2000 p (by omega) (by omega), zL_eq, nI_1]
  · rw [if_neg (by rw [zeq (by omega) (by omega)]; exact h), if_neg h, zL_eq, nI_1]
theorem eL_J194 {M : zM} {A B : zA} (h4 : zKn A ≤ 4) (hs : zSt M A) (hB : zLA 31 M = zTk B) (hok : zok B) (hB4 : zKn B ≤ 4) {a b q x sm p : Int32} {s : Int32 × Int32} {i T : Nat} (hi : i ≤ 300) (hT : T ≤ 60) {rec k : zM → Int32 → Int32 → Int32 → Int32 → Int32 → Int32 → Option (Int32 × zM)} :
    fL_would_J194 rec k M a b q x s.1 s.2 (nI T) sm p (nI i) (zwt B) = rec M x (if s.1 = 0 ∧ ¬ zcm B = 0 then (zwt B, nI i) else s).1 (if s.1 = 0 ∧ ¬ zcm B = 0 then (zwt B, nI i) else s).2 (if i ≤ T then sm ||| zcm B else sm) (if i = T then zf (zwpf (zTk B) A) (zKn A) 0 p else p) (nI (i + 1)) := by
  obtain ⟨t1, t2, t3, t4⟩ := zwt_f hok hB4
  have key : ∀ (c w : Int32), fL_would_J215 rec k M a b q x c w (nI T) sm p (nI i) (zwt B) = rec M x c w (if i ≤ T then sm ||| zcm B else sm) (if i = T then zf (zwpf (zTk B) A) (zKn A) 0 p else p) (nI (i + 1)) := by
    intro c w
    unfold fL_would_J215
    by_cases h : i ≤ T
    · rw [if_neg (by rw [zlt (by omega) (by omega)]; omega), if_pos h, zL_eq, t1, eL_J236 h4 hs hB hi hT]
    · rw [if_pos (by rw [zlt (by omega) (by omega)]; omega), if_neg h, zL_eq, or0, eL_J236 h4 hs hB hi hT]
  unfold fL_would_J194
  rw [t1]
  by_cases h1 : s.1 = 0
  · by_cases h2 : zcm B = 0
    · rw [if_pos h1, if_pos (t3.mpr h2), if_neg (show ¬ (s.1 = 0 ∧ ¬ zcm B = 0) from fun q => q.2 h2), key]
    · rw [if_pos h1, if_neg (fun q => h2 (t3.mp q)), if_pos (show s.1 = 0 ∧ ¬ zcm B = 0 from ⟨h1, h2⟩), key]
  · rw [if_neg h1, if_neg (show ¬ (s.1 = 0 ∧ ¬ zcm B = 0) from fun q => h1 q.1), key]
theorem lW {A : zA} (h4 : zKn A ≤ 4) {a b : Nat} (ha : a < zKn A) (hb : b < zKn A) {q : Bool} {T : Nat} (hT : T ≤ 60) {kk : zM → Int32 → Int32 → Int32 → Int32 → Int32 → Int32 → Option (Int32 × zM)} : ∀ (c i n : Nat) (B : zA) (x : Int32) (s : Int32 × Int32) (sm p : Int32) (M : zM), i + c = 301 → c < n → zSt M A → zLA 31 M = B → zok B → zKn B = zKn A →
    ∃ M', fL_would_L144 kk (nI a) (nI b) (zb q) (nI T) n M x s.1 s.2 sm p (nI i) = kk M' (zwm q a b c i B x) (zwc c i B s).1 (zwc c i B s).2 (zwso T c i B sm) (zwp T A c i B p) (nI 301) ∧ zSt M' A := by
  intro c
  induction c with
  | zero =>
    intro i n B x s sm p M hi hn hs hB hok hK
    obtain ⟨n, rfl⟩ : ∃ q, n = q + 1 := ⟨n - 1, by omega⟩
    obtain rfl : i = 301 := by omega
    exact ⟨M, rfl, hs⟩
  | succ c ih =>
    intro i n B x s sm p M hi hn hs hB hok hK
    obtain ⟨n, rfl⟩ : ∃ q, n = q + 1 := ⟨n - 1, by omega⟩
    obtain ⟨M1, e1, c1, p1, f1⟩ := eL_tick (b := 31) (Or.inr rfl) hB hok (by omega)
    have s1 := hs.m f1
    obtain ⟨M2, e2, s2⟩ := ih (i + 1) n (zTk B) (if q = true ∧ x < 0 ∧ zcr (zvC B) a b = true then nI i else x) (if s.1 = 0 ∧ ¬ zcm B = 0 then (zwt B, nI i) else s) (if i ≤ T then sm ||| zcm B else sm) (if i = T then zf (zwpf (zTk B) A) (zKn A) 0 p else p) M1 (by omega) (by omega) s1 c1 (zTk_ok hok) (by rw [zTk_Kn hok]; exact hK)
    have key : ∀ x', x' = (if q = true ∧ x < 0 ∧ zcr (zvC B) a b = true then nI i else x) → ∃ M', fL_would_J194 (fL_would_L144 kk (nI a) (nI b) (zb q) (nI T) n) kk M1 (nI a) (nI b) (zb q) x' s.1 s.2 (nI T) sm p (nI i) (zwt B) = kk M' (zwm q a b (c + 1) i B x) (zwc (c + 1) i B s).1 (zwc (c + 1) i B s).2 (zwso T (c + 1) i B sm) (zwp T A (c + 1) i B p) (nI 301) ∧ zSt M' A := by
      intro x' hx'
      rw [eL_J194 h4 s1 c1 hok (by omega) (by omega) hT, hx']
      exact ⟨M2, e2, s2⟩
    have e1' : fL_tick M 31 32 33 34 30 = some (zwt B, M1) := e1
    unfold fL_would_L144
    rw [if_neg (by rw [show (300 : Int32) = nI 300 from rfl, zlt (by omega) (by omega)]; omega), e1', zC_some]
    cases q with
    | false =>
      rw [if_pos (show zb false = 0 from rfl)]
      exact key x (by rw [if_neg (fun q => absurd q.1 (by decide))])
    | true =>
      rw [if_neg (show ¬ zb true = 0 by decide)]
      by_cases hx : 0 ≤ x
      · rw [if_pos hx]
        exact key x (by rw [if_neg (fun q => by have := q.2.1; rw [zlt_i] at this; rw [zle_i] at hx; omega)])
      · have hx' : x < 0 := by rw [zle_i] at hx; rw [zlt_i]; omega
        rw [if_neg hx, zi4, zI_eq (zix_nI (by omega) (by omega)), zN_nI (by omega), p1 a b (by omega) (by omega)]
        cases hc : zcr (zvC B) a b with
        | false =>
          rw [if_pos (zpa_neg.mpr hc)]
          exact key x (by rw [hc, if_neg (fun q => absurd q.2.2 (by decide))])
        | true =>
          rw [if_neg (fun q => by rw [zpa_neg, hc] at q; cases q)]
          exact key (nI i) (by rw [if_pos ⟨rfl, hx', hc⟩])
/-! what the loop finds -/
theorem zwm_pos {q : Bool} {a b : Nat} : ∀ (c i : Nat) (B : zA) (x : Int32), ¬ x < 0 → zwm q a b c i B x = x := by
  intro c
  induction c with
  | zero => intro i B x _; rfl
  | succ c ih =>
    intro i B x hx
    show zwm q a b c (i + 1) (zTk B) (if q = true ∧ x < 0 ∧ zcr (zvC B) a b = true then nI i else x) = x
    rw [if_neg (fun q => hx q.2.1)]
    exact ih _ _ _ hx
theorem zwm_neg {a b : Nat} : ∀ (c i : Nat) (B : zA), i + c ≤ 1000 → zwm true a b c i B (-6) = match zme a b c i B with
    | none => -6
    | some t => nI t := by
  intro c
  induction c with
  | zero => intro i B _; rfl
  | succ c ih =>
    intro i B hi
    show zwm true a b c (i + 1) (zTk B) (if true = true ∧ (-6 : Int32) < 0 ∧ zcr (zvC B) a b = true then nI i else -6) = match (if zcr (zvC B) a b = true then some i else zme a b c (i + 1) (zTk B)) with
      | none => -6
      | some t => nI t
    by_cases hc : zcr (zvC B) a b = true
    · rw [if_pos ⟨rfl, by decide, hc⟩, if_pos hc]
      exact zwm_pos _ _ _ _ (nI_pos (by omega))
    · rw [if_neg (fun q => hc q.2.2), if_neg hc]
      exact ih _ _ (by omega)
theorem zwm_is {A : zA} {a b : Nat} : zwm true a b 300 1 A (if zcr A a b = true then 0 else -6) = zmeA A a b := by
  unfold zmeA
  by_cases hc : zcr A a b = true
  · rw [if_pos hc, if_pos hc]; exact zwm_pos _ _ _ _ (by decide)
  · rw [if_neg hc, if_neg hc]; exact zwm_neg 300 1 A (by omega)
theorem zwc_pos : ∀ (c i : Nat) (B : zA) (s : Int32 × Int32), ¬ s.1 = 0 → zwc c i B s = s := by
  intro c
  induction c with
  | zero => intro i B s _; rfl
  | succ c ih =>
    intro i B s hs
    show zwc c (i + 1) (zTk B) (if s.1 = 0 ∧ ¬ zcm B = 0 then (zwt B, nI i) else s) = s
    rw [if_neg (fun q => hs q.1)]
    exact ih _ _ _ hs
theorem zwc_is : ∀ (c i : Nat) (B : zA), zok B → zKn B ≤ 4 → (zfc c i B = none ∧ zwc c i B (0, -6) = (0, -6)) ∨ ∃ B' t, zfc c i B = some (t, zcm B', zgm B') ∧ ¬ zcm B' = 0 ∧ zok B' ∧ zKn B' ≤ 4 ∧ zwc c i B (0, -6) = (zwt B', nI t) := by
  intro c
  induction c with
  | zero => intro i B _ _; exact Or.inl ⟨rfl, rfl⟩
  | succ c ih =>
    intro i B hok h4
    show ((if zcm B = 0 then zfc c (i + 1) (zTk B) else some (i, zcm B, zgm B)) = none ∧ zwc c (i + 1) (zTk B) (if (0 : Int32) = 0 ∧ ¬ zcm B = 0 then (zwt B, nI i) else (0, -6)) = (0, -6)) ∨ ∃ B' t, (if zcm B = 0 then zfc c (i + 1) (zTk B) else some (i, zcm B, zgm B)) = some (t, zcm B', zgm B') ∧ ¬ zcm B' = 0 ∧ zok B' ∧ zKn B' ≤ 4 ∧ zwc c (i + 1) (zTk B) (if (0 : Int32) = 0 ∧ ¬ zcm B = 0 then (zwt B, nI i) else (0, -6)) = (zwt B', nI t)
    by_cases hz : zcm B = 0
    · rw [if_pos hz, if_neg (fun q => q.2 hz)]
      exact ih (i + 1) (zTk B) (zTk_ok hok) (by rw [zTk_Kn hok]; exact h4)
    · rw [if_neg hz, if_pos ⟨rfl, hz⟩]
      refine Or.inr ⟨B, i, rfl, hz, hok, h4, zwc_pos _ _ _ _ fun q => ?_⟩
      have q' : zwt B = 0 := q
      exact hz ((zwt_f hok h4).2.2.2 (by rw [q']; exact Int32.le_refl _))
theorem zf_ix {σ : Type} {f : Nat → σ → σ} (hf : ∀ i j s, f i s = f j s) : ∀ (c i j : Nat) (s : σ), zf f c i s = zf f c j s := by
  intro c
  induction c with
  | zero => intro i j s; rfl
  | succ c ih =>
    intro i j s
    show zf f c (i + 1) (f i s) = zf f c (j + 1) (f j s)
    rw [hf i j s]; exact ih _ _ _
theorem zwso_past {T : Nat} : ∀ (c i : Nat) (B : zA) (s : Int32), T < i → zwso T c i B s = s := by
  intro c
  induction c with
  | zero => intro i B s _; rfl
  | succ c ih =>
    intro i B s hi
    show zwso T c (i + 1) (zTk B) (if i ≤ T then s ||| zcm B else s) = s
    rw [if_neg (by omega)]; exact ih _ _ _ (by omega)
theorem zwso_at {T : Nat} : ∀ (d c i : Nat) (B : zA) (s : Int32), i + d = T + 1 → d ≤ c → zwso T c i B s = (zf zt1 d 0 (B, s)).2 := by
  intro d
  induction d with
  | zero => intro c i B s hi hc; exact zwso_past c i B s (by omega)
  | succ d ih =>
    intro c i B s hi hc
    obtain ⟨c, rfl⟩ : ∃ q, c = q + 1 := ⟨c - 1, by omega⟩
    show zwso T c (i + 1) (zTk B) (if i ≤ T then s ||| zcm B else s) = (zf zt1 d 1 (zTk B, s ||| zcm B)).2
    rw [if_pos (by omega), ih c (i + 1) (zTk B) _ (by omega) (by omega), zf_ix (f := zt1) (fun _ _ _ => rfl) d 1 0]
theorem zwp_past {T : Nat} {A : zA} : ∀ (c i : Nat) (B : zA) (p : Int32), T < i → zwp T A c i B p = p := by
  intro c
  induction c with
  | zero => intro i B p _; rfl
  | succ c ih =>
    intro i B p hi
    show zwp T A c (i + 1) (zTk B) (if i = T then zf (zwpf (zTk B) A) (zKn A) 0 p else p) = p
    rw [if_neg (by omega)]; exact ih _ _ _ (by omega)
theorem zwp_at {T : Nat} {A : zA} : ∀ (d c i : Nat) (B : zA) (s p : Int32), i + d = T → d < c → zwp T A c i B p = zf (zwpf (zf zt1 (d + 1) 0 (B, s)).1 A) (zKn A) 0 p := by
  intro d
  induction d with
  | zero =>
    intro c i B s p hi hc
    obtain ⟨c, rfl⟩ : ∃ q, c = q + 1 := ⟨c - 1, by omega⟩
    show zwp T A c (i + 1) (zTk B) (if i = T then zf (zwpf (zTk B) A) (zKn A) 0 p else p) = zf (zwpf (zTk B) A) (zKn A) 0 p
    rw [if_pos (by omega)]
    exact zwp_past c (i + 1) _ _ (by omega)
  | succ d ih =>
    intro c i B s p hi hc
    obtain ⟨c, rfl⟩ : ∃ q, c = q + 1 := ⟨c - 1, by omega⟩
    show zwp T A c (i + 1) (zTk B) (if i = T then zf (zwpf (zTk B) A) (zKn A) 0 p else p) = zf (zwpf (zf zt1 (d + 1) 1 (zTk B, s ||| zcm B)).1 A) (zKn A) 0 p
    rw [if_neg (by omega), ih c (i + 1) (zTk B) (s ||| zcm B) p (by omega) (by omega), zf_ix (f := zt1) (fun _ _ _ => rfl) (d + 1) 1 0]
theorem zadd_sub (x y u v : Int32) : x - y + (u - v) = x + u - (y + v) := by
  simp only [Int32.sub_eq_add_neg, Int32.neg_add]
  ac_rfl
theorem zwp_sum {A B : zA} : ∀ (c q : Nat) (x y : Int32), zf (zwpf B A) c q (x - y) = zf (fun p s => s + B p 7) c q x - zf (fun p s => s + A p 7) c q y := by
  intro c
  induction c with
  | zero => intro q x y; rfl
  | succ c ih =>
    intro q x y
    show zf (zwpf B A) c (q + 1) (x - y + (B q 7 - A q 7)) = zf _ c (q + 1) (x + B q 7) - zf _ c (q + 1) (y + A q 7)
    rw [zadd_sub, ih]
theorem zwp_is {A : zA} (h : zok A) {T : Nat} (hT1 : 1 ≤ T) (hT : T ≤ 300) : zwp T A 300 1 A 0 = zsp (zts A T).1 - zsp A := by
  rw [zwp_at (T - 1) 300 1 A 0 0 (by omega) (by omega), show T - 1 + 1 = T by omega]
  have hK := (zts_Kn h T).2
  have e : (0 : Int32) = 0 - 0 := by decide
  show zf (zwpf (zts A T).1 A) (zKn A) 0 0 = _
  rw [show zf (zwpf (zts A T).1 A) (zKn A) 0 0 = zf (zwpf (zts A T).1 A) (zKn A) 0 (0 - 0) by rw [← e], zwp_sum]
  unfold zsp
  rw [hK]
/-! the lowest kite that is cut -/
theorem lW_low {a11 a12 a13 a14 a15 a16 a17 a18 a19 : Int32} {M : zM} {kk : zM → Int32 → Option (Int32 × zM)} {p : Nat} (hp6 : p < 6) (h0 : ¬ a15 ≤ 0) (hp : zbq (zir a15 100) p = true) (hl : ∀ q, q < p → zbq (zir a15 100) q = false) : ∀ (c i n : Nat), i + c = p → c < n →
    fL_would_L296 kk a11 a12 a13 a14 a15 a16 a17 a18 a19 n M (nI i) = kk M (nI p) := by
  intro c
  induction c with
  | zero =>
    intro i n hi hn
    obtain ⟨n, rfl⟩ : ∃ q, n = q + 1 := ⟨n - 1, by omega⟩
    obtain rfl : i = p := by omega
    unfold fL_would_L296
    rw [if_neg h0, if_neg (by rw [z_bit]; exact fun q => q (of_decide_eq_true hp))]
  | succ c ih =>
    intro i n hi hn
    obtain ⟨n, rfl⟩ : ∃ q, n = q + 1 := ⟨n - 1, by omega⟩
    unfold fL_would_L296
    rw [if_neg h0, if_pos (by rw [z_bit]; exact of_decide_eq_false (hl i (by omega))), zL_eq, nI_1]
    exact ih (i + 1) n (by omega) (by omega)
theorem zmk_low {P : Nat → Bool} (h : ¬ zmk P = 0) : ∃ p, p < 6 ∧ P p = true ∧ ∀ q, q < p → P q = false := by
  have hx : ∃ p, p < 6 ∧ P p = true := by
    refine Classical.byContradiction fun hn => h ?_
    rw [← zmk_0]
    refine zmk_congr fun k hk => ?_
    cases hp : P k with
    | false => rfl
    | true => exact absurd ⟨k, hk, hp⟩ hn
  obtain ⟨p, h1, h2⟩ := hx
  have key : ∀ n p, p ≤ n → p < 6 → P p = true → ∃ p, p < 6 ∧ P p = true ∧ ∀ q, q < p → P q = false := by
    intro n
    induction n with
    | zero => intro p hp h1 h2; exact ⟨p, h1, h2, fun q hq => by omega⟩
    | succ n ih =>
      intro p hp h1 h2
      by_cases hq : ∃ q, q < p ∧ P q = true
      · obtain ⟨q, q1, q2⟩ := hq
        exact ih q (by omega) (by omega) q2
      · refine ⟨p, h1, h2, fun q q1 => ?_⟩
        cases hc : P q with
        | false => rfl
        | true => exact absurd ⟨q, q1, hc⟩ hq
  exact key p p (Nat.le_refl _) h1 h2
theorem zme_sym {a b : Nat} : ∀ (c i : Nat) (A : zA), zme b a c i A = zme a b c i A := by
  intro c
  induction c with
  | zero => intro i A; rfl
  | succ c ih =>
    intro i A
    show (if zcr (zvC A) b a = true then some i else zme b a c (i + 1) (zTk A)) = (if zcr (zvC A) a b = true then some i else zme a b c (i + 1) (zTk A))
    rw [zcr_sym, ih]
theorem zmeA_sym {A : zA} {a b : Nat} : zmeA A b a = zmeA A a b := by unfold zmeA; rw [zcr_sym, zme_sym]
theorem eL_J116 {M : zM} {A : zA} {v : Int32} (hs : zSt M A) (h4 : zKn A ≤ 4) (hB : zLA 31 M = A) {a b : Nat} (ha : a < zKn A) (hb : b < zKn A) {q : Bool} {x : Int32} (hq : q = true → a ≠ b ∧ zfly A a = true ∧ zfly A b = true ∧ x = if zcr A a b = true then 0 else -6) : ∃ M', fL_would_J116 M v (nI a) (nI b) (zb q) x = some (1, M') ∧ zSt M' A := by
  have hok := hs.ok
  unfold fL_would_J116
  rw [show (60 : Int32) = nI 60 from rfl, eL_low (by omega) (by omega), zC_some, zL_eq, show (1 : Int32) + nI (zlw (v >>> (3 &&& 31)) 60) = nI (1 + zlw (v >>> (3 &&& 31)) 60) from nI_add 1 _]
  have hlt := zlw_lt (v := v >>> (3 &&& 31)) (n := 60) (by omega)
  obtain ⟨T, hT⟩ : ∃ T, T = 1 + zlw (v >>> (3 &&& 31)) 60 := ⟨_, rfl⟩
  rw [← hT]
  have key : ∀ (kk : zM → Int32 → Int32 → Int32 → Int32 → Int32 → Int32 → Option (Int32 × zM)), (∀ M1, zSt M1 A → ∃ M', kk M1 (zwm q a b 300 1 A x) (zwc 300 1 A (0, -6)).1 (zwc 300 1 A (0, -6)).2 (zts A T).2 (zsp (zts A T).1 - zsp A) (nI 301) = some (1, M') ∧ zSt M' A) → ∃ M', fL_would_L144 kk (nI a) (nI b) (zb q) (nI T) 2000 M x 0 (-6) 0 0 1 = some (1, M') ∧ zSt M' A := by
    intro kk hk
    obtain ⟨M1, e1, s1⟩ := lW h4 ha hb (q := q) (T := T) (by omega) (kk := kk) 300 1 2000 A x (0, -6) 0 0 M (by omega) (by omega) hs hB hok rfl
    have e1' : fL_would_L144 kk (nI a) (nI b) (zb q) (nI T) 2000 M x 0 (-6) 0 0 1 = _ := e1
    rw [e1', zwso_at T 300 1 A 0 (by omega) (by omega), zwp_is hok (by omega) (by omega)]
    exact hk M1 s1
  refine key _ fun M1 s1 => ?_
  try dsimp only
  -- the last questions: what passes brings, when the two meet
  have last : ∀ (M1 : zM), zSt M1 A → ∃ M', (zC (fX6_ifPassed M1 (nI T) 0) fun r75 M74 => if r75 = (zts A T).2 then (zC (fX6_ifPassed M74 (nI T) 1) fun r78 M77 => if r78 = (zsp (zts A T).1 - zsp A) then (if zb q = 0 then some (1, M77) else zC (fX6_meets M77 (nI a) (nI b)) fun r82 M81 => if r82 = (zwm q a b 300 1 A x) then (zC (fX6_meets M81 (nI b) (nI a)) fun r85 M84 => if r85 = (zwm q a b 300 1 A x) then some (1, M84) else some (0, M84)) else some (0, M81)) else some (0, M77)) else some (0, M74)) = some ((1 : Int32), M') ∧ zSt M' A := by
    intro M1 s1
    obtain ⟨M2, e2, s2, -⟩ := s1.q (p_ifp0 (T := T) s1.1 (by omega) (by omega))
    obtain ⟨M3, e3, s3, -⟩ := s2.q (p_ifp1 (T := T) s2.1 (by omega) (by omega))
    rw [e2, zC_some, if_pos rfl, e3, zC_some, if_pos rfl]
    cases q with
    | false => exact ⟨M3, by rw [if_pos (show zb false = 0 from rfl)], s3⟩
    | true =>
      obtain ⟨q1, q2, q3, q4⟩ := hq rfl
      obtain ⟨M4, e4, s4, -⟩ := s3.q (p_meets s3.1 ha hb q1 q2 q3)
      obtain ⟨M5, e5, s5, -⟩ := s4.q (p_meets s4.1 hb ha (fun q => q1 q.symm) q3 q2)
      rw [zmeA_sym] at e5
      rw [if_neg (show ¬ zb true = 0 by decide), e4, zC_some, q4, zwm_is, if_pos rfl, e5, zC_some, if_pos rfl]
      exact ⟨M5, rfl, s5⟩
  obtain ⟨M2, e2, s2, -⟩ := s1.q (p_firstCut (v := 0) s1.1 (by omega))
  obtain ⟨M3, e3, s3, -⟩ := s2.q (p_firstCut (v := 1) s2.1 (by omega))
  obtain ⟨M4, e4, s4, -⟩ := s3.q (p_firstCut (v := 2) s3.1 (by omega))
  rcases zwc_is 300 1 A hok h4 with ⟨w1, w2⟩ | ⟨B', t, w1, w2, w3, w4, w5⟩
  · have f0 : ∀ v, zfcA A v = -6 := fun v => by unfold zfcA; rw [w1]
    rw [f0] at e2 e3 e4
    have e2' : fX6_firstCut M1 0 = some (-6, M2) := e2
    have e3' : fX6_firstCut M2 1 = some (-6, M3) := e3
    have e4' : fX6_firstCut M3 2 = some (-6, M4) := e4
    rw [w2]
    try dsimp only
    rw [show (2000 : Nat) = 1999 + 1 from rfl]
    unfold fL_would_L296
    rw [if_pos (Int32.le_refl _), e2', zC_some, if_pos rfl, e3', zC_some, if_pos rfl, if_pos rfl, e4', zC_some, if_pos rfl]
    exact last M4 s4
  · obtain ⟨t1, t2, t3, t4⟩ := zwt_f w3 w4
    have hne : ¬ zwt B' ≤ 0 := fun q => w2 (t4 q)
    have hne0 : ¬ zwt B' = 0 := fun q => hne (by rw [q]; exact Int32.le_refl _)
    obtain ⟨p, p1, p2, p3⟩ := zmk_low (P := zcutP (zvC B')) w2
    have b1 : zbq (zir (zwt B') 100) p = true := by rw [t1]; show zbq (zmk _) p = true; rw [zmk_bq p1]; exact p2
    have b2 : ∀ q, q < p → zbq (zir (zwt B') 100) q = false := fun q hq => by rw [t1]; show zbq (zmk _) q = false; rw [zmk_bq (by omega)]; exact p3 q hq
    have f0 : zfcA A (nI 0) = nI t := by unfold zfcA; rw [w1]; show zfa (nI 0) t _ _ = _; unfold zfa; rw [if_pos (by decide)]
    have f1 : zfcA A (nI 1) = nI p := by
      unfold zfcA; rw [w1]; show zfa (nI 1) t (zcm B') _ = _; unfold zfa; rw [if_neg (by decide), if_pos (by decide)]
      rw [t1] at b1 b2
      exact zlow_eq b1 b2 6 (-6) p1
    have f2 : zfcA A (nI 2) = zgm B' := by unfold zfcA; rw [w1]; show zfa (nI 2) t _ (zgm B') = _; unfold zfa; rw [if_neg (by decide), if_neg (by decide)]
    rw [f0] at e2
    rw [f1] at e3
    rw [f2] at e4
    have e2' : fX6_firstCut M1 0 = some (nI t, M2) := e2
    have e3' : fX6_firstCut M2 1 = some (nI p, M3) := e3
    have e4' : fX6_firstCut M3 2 = some (zgm B', M4) := e4
    rw [w5]
    try dsimp only
    rw [show (0 : Int32) = nI 0 from rfl, lW_low p1 hne b1 b2 p 0 2000 (by omega) (by omega)]
    rw [show nI 0 = (0 : Int32) from rfl, e2', zC_some, if_pos rfl, e3', zC_some, if_neg hne0, if_pos rfl, e4', zC_some, if_pos t2.symm]
    exact last M4 s4
theorem eL_would {M : zM} {A : zA} {v : Int32} (hs : zSt M A) (h4 : zKn A ≤ 4) (h0 : 0 < zKn A) : ∃ M', fL_would M v = some (1, M') ∧ zSt M' A := by
  obtain ⟨M1, e1, f1, g1⟩ := eL_copy (k1 := 26) (n1 := 4) (k2 := 31) (n2 := 4) (N := 4) (M := M) (by omega) (by omega) (by omega) (by omega) (by omega)
  obtain ⟨M2, e2, f2, g2⟩ := eL_copy (k1 := 27) (n1 := 48) (k2 := 32) (n2 := 48) (N := 48) (M := M1) (by omega) (by omega) (by omega) (by omega) (by omega)
  obtain ⟨M3, e3, f3, g3⟩ := eL_copy (k1 := 28) (n1 := 64) (k2 := 33) (n2 := 64) (N := 64) (M := M2) (by omega) (by omega) (by omega) (by omega) (by omega)
  obtain ⟨M4, e4, f4, g4⟩ := eL_copy (k1 := 29) (n1 := 64) (k2 := 34) (n2 := 64) (N := 64) (M := M3) (by omega) (by omega) (by omega) (by omega) (by omega)
  have fm : zfm 31 M M4 := fun k i a c => by rw [f4 k i (by omega), f3 k i (by omega), f2 k i (by omega), f1 k i (by omega)]
  have s4 := hs.m fm
  have hB : zLA 31 M4 = A := by
    rw [← hs.2]
    refine zLA_of (fun s h => ?_) (fun s h => ?_) (fun s h => ?_) (fun s h => ?_)
    · rw [f4 31 0 (by omega), f3 31 0 (by omega), f2 31 0 (by omega), g1 s h]
    · show M4 32 0 s = M 27 0 s
      rw [f4 32 0 (by omega), f3 32 0 (by omega), g2 s h, f1 27 0 (by omega)]
    · show M4 33 0 s = M 28 0 s
      rw [f4 33 0 (by omega), g3 s h, f2 28 0 (by omega), f1 28 0 (by omega)]
    · show M4 34 0 s = M 29 0 s
      rw [g4 s h, f3 29 0 (by omega), f2 29 0 (by omega), f1 29 0 (by omega)]
  have e1' : fL_copy M 26 4 31 4 4 = some ((), M1) := e1
  have e2' : fL_copy M1 27 48 32 48 48 = some ((), M2) := e2
  have e3' : fL_copy M2 28 64 33 64 64 = some ((), M3) := e3
  have e4' : fL_copy M3 29 64 34 64 64 = some ((), M4) := e4
  obtain ⟨a, ha⟩ : ∃ a, a = zlw v (zKn A) := ⟨_, rfl⟩
  have haK : a < zKn A := by rw [ha]; exact zlw_lt h0
  obtain ⟨b, hb⟩ : ∃ b, b = (a + 1) % zKn A := ⟨_, rfl⟩
  have hbK : b < zKn A := by rw [hb]; exact Nat.mod_lt _ h0
  unfold fL_would
  rw [e1', zC_some, e2', zC_some, e3', zC_some, e4', zC_some, zI_eq (by decide), s4.n, eL_low h0 (by omega), zC_some, ← ha, zI_eq (by decide), s4.n, zV_eq (nI_ne0 (by omega) (by omega)), zL_eq, nI_1, zi_rem (by omega) h0 (by omega), ← hb]
  have no : ∃ M', fL_would_J116 M4 v (nI a) (nI b) 0 (-6) = some (1, M') ∧ zSt M' A := eL_J116 s4 h4 hB haK hbK (q := false) (x := -6) (fun q => absurd q (by decide))
  by_cases hab : a = b
  · rw [if_pos (by rw [hab])]; exact no
  · have ha4 : a < 4 := by omega
    have hb4 : b < 4 := by omega
    rw [if_neg (by rw [zeq (by omega) (by omega)]; exact hab), zx8, zxI ha4 (by omega), zxN ha4 (by omega), s4.r ha4 (show 8 < 12 by omega)]
    by_cases a8 : A a 8 = 0
    · rw [if_pos a8, zx8, zxI hb4 (by omega), zxN hb4 (by omega), s4.r hb4 (show 8 < 12 by omega)]
      by_cases b8 : A b 8 = 0
      · have fa : zfly A a = true := by rw [zfly_is haK]; exact decide_eq_true a8
        have fb : zfly A b = true := by rw [zfly_is hbK]; exact decide_eq_true b8
        rw [if_pos b8, eL_place (b := 26) s4.2 (hs.ok.2.2 a haK).kp (hs.ok.2.2 b hbK).kp h4 haK hbK hab, zC_some]
        cases hc : zcr A a b with
        | false =>
          rw [if_pos (zpa_neg.mpr hc)]
          exact eL_J116 s4 h4 hB haK hbK (q := true) (x := -6) (fun _ => ⟨hab, fa, fb, by rw [hc, if_neg (by decide)]⟩)
        | true =>
          rw [if_neg (fun q => by rw [zpa_neg, hc] at q; cases q)]
          exact eL_J116 s4 h4 hB haK hbK (q := true) (x := 0) (fun _ => ⟨hab, fa, fb, by rw [hc, if_pos rfl]⟩)
      · rw [if_neg b8]; exact no
    · rw [if_neg a8]; exact no
