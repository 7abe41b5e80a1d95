/-! the parts of a kite -/
theorem zka_lo {A : zA} {k n : Nat} (hn : n < 9) : zka A k n = A k n + (if n = 3 ∨ n = 4 then 10 else 0) := by
  obtain rfl | rfl | rfl | rfl | rfl | rfl | rfl | rfl | rfl : n = 0 ∨ n = 1 ∨ n = 2 ∨ n = 3 ∨ n = 4 ∨ n = 5 ∨ n = 6 ∨ n = 7 ∨ n = 8 := by omega
  · exact (Int32.add_zero _).symm
  · exact (Int32.add_zero _).symm
  · exact (Int32.add_zero _).symm
  · rfl
  · rfl
  · exact (Int32.add_zero _).symm
  · exact (Int32.add_zero _).symm
  · exact (Int32.add_zero _).symm
  · exact (Int32.add_zero _).symm
theorem lS_k {A : zA} {k : Nat} (hk : k < zKn A) (h4 : zKn A ≤ 4) {a5 a6 a7 a8 a11 a12 a13 a14 : Int32} {kk : zM → Int32 → Option (Int32 × zM)} : ∀ (c i n : Nat) (M : zM), i + c = 9 → c < n → zSt M A →
    ∃ M', fL_same_L480 kk a5 a6 a7 a8 (nI k) (12 * nI k) a11 a12 a13 a14 n M (nI i) = kk M' (nI 9) ∧ zSt M' A ∧ zhi M M' := by
  intro c
  induction c with
  | zero =>
    intro i n M hi hn hs
    obtain ⟨n, rfl⟩ : ∃ q, n = q + 1 := ⟨n - 1, by omega⟩
    obtain rfl : i = 9 := by omega
    exact ⟨M, rfl, hs, zhi.refl⟩
  | succ c ih =>
    intro i n M hi hn hs
    obtain ⟨n, rfl⟩ : ∃ q, n = q + 1 := ⟨n - 1, by omega⟩
    have hk4 : k < 4 := by omega
    obtain ⟨M1, e1, s1, f1⟩ := hs.q (p_kite (n := i) hs.1 hk (by omega))
    rw [zka_lo (by omega)] at e1
    obtain ⟨M2, e2, s2, f2⟩ := ih (i + 1) n M1 (by omega) (by omega) s1
    unfold fL_same_L480
    rw [if_neg (by rw [show (9 : Int32) = nI 9 from rfl, zle (by omega) (by omega)]; omega), e1, zC_some, zi12, zxI hk4 (by omega), zxN hk4 (by omega), s1.r hk4 (show i < 12 by omega)]
    refine ⟨M2, ?_, s2, f1.trans f2⟩
    rw [← e2]
    by_cases h3 : i = 3
    · rw [if_pos (by rw [h3]; rfl), if_pos (by rw [if_pos (Or.inl h3)]), zL_eq, nI_1]
    · rw [if_neg (by rw [show (3 : Int32) = nI 3 from rfl, zeq (by omega) (by omega)]; exact h3)]
      by_cases h4' : i = 4
      · rw [if_pos (by rw [h4']; rfl), if_pos (by rw [if_pos (Or.inr h4')]), zL_eq, nI_1]
      · rw [if_neg (by rw [show (4 : Int32) = nI 4 from rfl, zeq (by omega) (by omega)]; exact h4'), if_pos (by rw [if_neg (by omega)]), zL_eq, nI_1]
/-- the rest of a kite's row: its parts, the greatest wear, where, who crosses -/
theorem lS_t {A : zA} {k : Nat} (hk : k < zKn A) (h4 : zKn A ≤ 4) {a5 a6 a7 a8 a11 a12 a13 a14 x9 x10 x11 : Int32} (h9 : x9 = zka A k 9) (h10 : x10 = zka A k 10) (h11 : x11 = zka A k 11) {F : zM → Option (Int32 × zM)} {M : zM} (hs : zSt M A) :
    ∃ M', fL_same_L480 (fun M225 v226 => zC (fX6_kite M225 (nI k) 9) fun r228 M227 => if r228 = x9 then (zC (fX6_kite M227 (nI k) 10) fun r231 M230 => if r231 = x10 then (zC (fX6_kite M230 (nI k) 11) fun r234 M233 => if r234 = x11 then F M233 else some (0, M233)) else some (0, M230)) else some (0, M227)) a5 a6 a7 a8 (nI k) (12 * nI k) a11 a12 a13 a14 2000 M 0 = F M' ∧ zSt M' A ∧ zhi M M' := by
  obtain ⟨M1, e1, s1, f1⟩ := lS_k hk h4 (a5 := a5) (a6 := a6) (a7 := a7) (a8 := a8) (a11 := a11) (a12 := a12) (a13 := a13) (a14 := a14) (kk := fun M225 v226 => zC (fX6_kite M225 (nI k) 9) fun r228 M227 => if r228 = x9 then (zC (fX6_kite M227 (nI k) 10) fun r231 M230 => if r231 = x10 then (zC (fX6_kite M230 (nI k) 11) fun r234 M233 => if r234 = x11 then F M233 else some (0, M233)) else some (0, M230)) else some (0, M227)) 9 0 2000 M (by omega) (by omega) hs
  obtain ⟨M2, e2, s2, f2⟩ := s1.q (p_kite (n := 9) s1.1 hk (by omega))
  obtain ⟨M3, e3, s3, f3⟩ := s2.q (p_kite (n := 10) s2.1 hk (by omega))
  obtain ⟨M4, e4, s4, f4⟩ := s3.q (p_kite (n := 11) s3.1 hk (by omega))
  have e2' : fX6_kite M1 (nI k) 9 = some (zka A k 9, M2) := e2
  have e3' : fX6_kite M2 (nI k) 10 = some (zka A k 10, M3) := e3
  have e4' : fX6_kite M3 (nI k) 11 = some (zka A k 11, M4) := e4
  refine ⟨M4, ?_, s4, f1.trans (f2.trans (f3.trans f4))⟩
  refine Eq.trans e1 ?_
  rw [e2', zC_some, if_pos h9.symm, e3', zC_some, if_pos h10.symm, e4', zC_some, if_pos h11.symm]
/-! all kites -/
def zfa4 (A : zA) : Nat → Int32 → Int32 := fun k m => if zfly A k = true then m ||| zbit k else m
def zfp4 (A : zA) : Nat → Int32 → Int32 := fun k p => zf (zx1p A k) (zKn A) 0 p
def zfs4 (A : zA) : Nat → Int32 → Int32 := fun k s => s + A k 7
def zfb4 (A : zA) : Nat → Int32 → Int32 := fun k b => if b < 0 then nI k else if A k 7 ≤ A (zN b) 7 then b else nI k
theorem zka_9 {A : zA} {k : Nat} (hz : zkite A k) : (if zfly A k = true then (zsm A k 32 (0, 0)).1 else 0) = zka A k 9 ∧ (if zfly A k = true then (zsm A k 32 (0, 0)).2 else 0) = zka A k 10 := by
  obtain ⟨_, _, _, _, _, _, _, _, _, _, _, a12, _⟩ := hz
  rw [zsm_is (fun q hq => (a12 q hq).1)]
  constructor
  · simp only [zka]
  · simp only [zka]
theorem zx2_all {A : zA} (h : zKn A ≤ 6) {k : Nat} : zf (zx2p A k) (zKn A) 0 0 = zmk (fun o => zcr A k o) := by
  unfold zmk
  exact (zf_cut h _ (fun o h1 h2 m => by
    show (if zcr A k o = true then m ||| zbit o else m) = m
    rw [zcr_out (Or.inr h1), if_neg (by decide)])).symm
theorem zka_11 {A : zA} (h : zKn A ≤ 6) {k : Nat} : (if zfly A k = true then zf (zx2p A k) (zKn A) 0 0 else 0) = zka A k 11 := by
  rw [zx2_all h]; rfl
theorem lS_o {A : zA} (h4 : zKn A ≤ 4) {kk : zM → Int32 → Int32 → Int32 → Int32 → Int32 → Option (Int32 × zM)} : ∀ (c i n : Nat) (air p s b : Int32) (M : zM), i + c = zKn A → c < n → (b < 0 ∨ ∃ m, m < zKn A ∧ b = nI m) → zSt M A →
    ∃ M', fL_same_L16 kk n M air p s b (nI i) = kk M' (zf (zfa4 A) c i air) (zf (zfp4 A) c i p) (zf (zfs4 A) c i s) (zf (zfb4 A) c i b) (nI (zKn A)) ∧ zSt M' A ∧ zhi M M' := by
  intro c
  induction c with
  | zero =>
    intro i n air p s b M hi hn hb hs
    obtain ⟨n, rfl⟩ : ∃ q, n = q + 1 := ⟨n - 1, by omega⟩
    have hi' : i = zKn A := by omega
    refine ⟨M, ?_, hs, zhi.refl⟩
    unfold fL_same_L16
    rw [zI_eq (by decide), hs.n, hi', if_pos (by rw [zle (by omega) (by omega)]; omega)]
    rfl
  | succ c ih =>
    intro i n air p s b M hi hn hb hs
    obtain ⟨n, rfl⟩ : ∃ q, n = q + 1 := ⟨n - 1, by omega⟩
    have hiK : i < zKn A := by omega
    have hi4 : i < 4 := by omega
    have hz := hs.ok.2.2 i hiK
    obtain ⟨g9, g10⟩ := zka_9 hz
    have g11 := zka_11 (A := A) (k := i) (by omega)
    have hfl := zfly_is hiK
    show ∃ M', fL_same_L16 kk (n + 1) M air p s b (nI i) = kk M' (zf (zfa4 A) c (i + 1) (zfa4 A i air)) (zf (zfp4 A) c (i + 1) (zfp4 A i p)) (zf (zfs4 A) c (i + 1) (zfs4 A i s)) (zf (zfb4 A) c (i + 1) (zfb4 A i b)) (nI (zKn A)) ∧ zSt M' A ∧ zhi M M'
    have hb' : zfb4 A i b < 0 ∨ ∃ m, m < zKn A ∧ zfb4 A i b = nI m := by
      unfold zfb4
      split
      · exact Or.inr ⟨i, hiK, rfl⟩
      · split
        · exact hb
        · exact Or.inr ⟨i, hiK, rfl⟩
    -- behind both inner loops
    have tail : ∀ (M1 : zM) (x9 x10 x11 a5' a6' a7' f11 y12 y13 y14 : Int32), zSt M1 A → zhi M M1 → x9 = zka A i 9 → x10 = zka A i 10 → x11 = zka A i 11 → a5' = zfa4 A i air → a6' = zfp4 A i p → a7' = zfs4 A i s → ∀ b', b' = zfb4 A i b →
        ∃ M', fL_same_L480 (fun M225 v226 => zC (fX6_kite M225 (nI i) 9) fun r228 M227 => if r228 = x9 then (zC (fX6_kite M227 (nI i) 10) fun r231 M230 => if r231 = x10 then (zC (fX6_kite M230 (nI i) 11) fun r234 M233 => if r234 = x11 then (zL (nI i + 1) fun v236 => fL_same_L16 kk n M233 a5' a6' a7' b' v236) else some (0, M233)) else some (0, M230)) else some (0, M227)) a5' a6' a7' b' (nI i) (12 * nI i) f11 y12 y13 y14 2000 M1 0 = kk M' (zf (zfa4 A) c (i + 1) (zfa4 A i air)) (zf (zfp4 A) c (i + 1) (zfp4 A i p)) (zf (zfs4 A) c (i + 1) (zfs4 A i s)) (zf (zfb4 A) c (i + 1) (zfb4 A i b)) (nI (zKn A)) ∧ zSt M' A ∧ zhi M M' := by
      intro M1 x9 x10 x11 a5' a6' a7' f11 y12 y13 y14 s1 f1 h9 h10 h11 ha hp hs' b' hb''
      obtain ⟨M2, e2, s2, f2⟩ := lS_t hiK h4 (a5 := a5') (a6 := a6') (a7 := a7') (a8 := b') (a11 := f11) (a12 := y12) (a13 := y13) (a14 := y14) h9 h10 h11 (F := fun M233 => zL (nI i + 1) fun v236 => fL_same_L16 kk n M233 a5' a6' a7' b' v236) s1
      obtain ⟨M3, e3, s3, f3⟩ := ih (i + 1) n (zfa4 A i air) (zfp4 A i p) (zfs4 A i s) (zfb4 A i b) M2 (by omega) (by omega) hb' s2
      refine ⟨M3, ?_, s3, f1.trans (f2.trans f3)⟩
      rw [e2, zL_eq, nI_1, ha, hp, hs', hb'']
      exact e3
    -- the two inner loops
    have mid : ∀ (f11 : Int32), f11 = zb (zfly A i) → ∀ (K2 : zM → Int32 → Int32 → Int32 → Int32 → Int32 → Option (Int32 × zM)), (∀ M1 y12 y13 y14, zSt M1 A → zhi M M1 → y12 = (zsm A i 32 (0, 0)).1 → y13 = (zsm A i 32 (0, 0)).2 → y14 = zf (zx2p A i) (zKn A) 0 0 → ∃ M', K2 M1 y12 y13 (zfp4 A i p) y14 (nI (zKn A)) = kk M' (zf (zfa4 A) c (i + 1) (zfa4 A i air)) (zf (zfp4 A) c (i + 1) (zfp4 A i p)) (zf (zfs4 A) c (i + 1) (zfs4 A i s)) (zf (zfb4 A) c (i + 1) (zfb4 A i b)) (nI (zKn A)) ∧ zSt M' A ∧ zhi M M') →
        ∃ M', fL_same_L61 (fun M58 v59 v60 v61 => fL_same_L144 (fun M159 v160 v161 v162 => K2 M159 v59 v60 v160 v161 v162) air s b (nI i) (12 * nI i) f11 v59 v60 2000 M58 p 0 0) air p s b (nI i) (12 * nI i) f11 0 2000 M 0 0 31 = kk M' (zf (zfa4 A) c (i + 1) (zfa4 A i air)) (zf (zfp4 A) c (i + 1) (zfp4 A i p)) (zf (zfs4 A) c (i + 1) (zfs4 A i s)) (zf (zfb4 A) c (i + 1) (zfb4 A i b)) (nI (zKn A)) ∧ zSt M' A ∧ zhi M M' := by
      intro f11 hf11 K2 hK2
      obtain ⟨M1, e1, s1, f1⟩ := lS_w hiK h4 (a5 := air) (a6 := p) (a7 := s) (a8 := b) (a10 := 12 * nI i) (a14 := 0) hf11 (kk := fun M58 v59 v60 v61 => fL_same_L144 (fun M159 v160 v161 v162 => K2 M159 v59 v60 v160 v161 v162) air s b (nI i) (12 * nI i) f11 v59 v60 2000 M58 p 0 0) 32 2000 (0, 0) M (by omega) (by omega) hs
      have e1' : fL_same_L61 (fun M58 v59 v60 v61 => fL_same_L144 (fun M159 v160 v161 v162 => K2 M159 v59 v60 v160 v161 v162) air s b (nI i) (12 * nI i) f11 v59 v60 2000 M58 p 0 0) air p s b (nI i) (12 * nI i) f11 0 2000 M 0 0 31 = _ := e1
      rw [e1']
      obtain ⟨M2, e2, s2, f2⟩ := lS_x hiK h4 (a5 := air) (a7 := s) (a8 := b) (a10 := 12 * nI i) (a12 := (zsm A i 32 (0, 0)).1) (a13 := (zsm A i 32 (0, 0)).2) hf11 (kk := fun M159 v160 v161 v162 => K2 M159 (zsm A i 32 (0, 0)).1 (zsm A i 32 (0, 0)).2 v160 v161 v162) (zKn A) 0 2000 p 0 M1 (by omega) (by omega) s1
      have e2' : fL_same_L144 (fun M159 v160 v161 v162 => K2 M159 (zsm A i 32 (0, 0)).1 (zsm A i 32 (0, 0)).2 v160 v161 v162) air s b (nI i) (12 * nI i) f11 (zsm A i 32 (0, 0)).1 (zsm A i 32 (0, 0)).2 2000 M1 p 0 0 = _ := e2
      show ∃ M', fL_same_L144 (fun M159 v160 v161 v162 => K2 M159 (zsm A i 32 (0, 0)).1 (zsm A i 32 (0, 0)).2 v160 v161 v162) air s b (nI i) (12 * nI i) f11 (zsm A i 32 (0, 0)).1 (zsm A i 32 (0, 0)).2 2000 M1 p 0 0 = _ ∧ _
      rw [e2']
      exact hK2 M2 _ _ _ s2 (f1.trans f2) rfl rfl rfl
    have hread : ∀ M1, zSt M1 A → M1 27 0 (12 * i + 7) = A i 7 := fun M1 s1 => s1.r hi4 (by omega)
    unfold fL_same_L16
    rw [zI_eq (by decide), hs.n, if_neg (by rw [zle (by omega) (by omega)]; omega), zL_eq, zx8, zxI hi4 (by omega), zxN hi4 (by omega), hs.r hi4 (show 8 < 12 by omega)]
    by_cases c8 : A i 8 = 0
    · have hf : zfly A i = true := by rw [hfl]; exact decide_eq_true c8
      rw [hf, if_pos rfl] at g9 g10 g11
      rw [if_pos c8]
      refine mid 1 (by rw [hf]; rfl) _ fun M1 y12 y13 y14 s1 f1 h12 h13 h14 => ?_
      have ea : air ||| 1 <<< (nI i &&& 31) = zfa4 A i air := by unfold zfa4; rw [hf, if_pos rfl]; rfl
      have es : s + A i 7 = zfs4 A i s := rfl
      rw [zL_eq, zx7, zxI hi4 (by omega), zxN hi4 (by omega), hread M1 s1, zL_eq]
      by_cases cb : b < 0
      · rw [if_pos cb]
        exact tail M1 y12 y13 y14 _ _ _ 1 y12 y13 y14 s1 f1 (h12.trans g9) (h13.trans g10) (h14.trans g11) ea rfl es (nI i) (by unfold zfb4; rw [if_pos cb])
      · obtain ⟨m, hm, rfl⟩ : ∃ m, m < zKn A ∧ b = nI m := by rcases hb with hb | hb; exact absurd hb cb; exact hb
        rw [if_neg cb, zxI hi4 (by omega), zx7, zxI (show m < 4 by omega) (by omega), zxN (show m < 4 by omega) (by omega), s1.r (show m < 4 by omega) (show 7 < 12 by omega)]
        by_cases cr : A i 7 ≤ A m 7
        · rw [if_pos cr]
          exact tail M1 y12 y13 y14 _ _ _ 1 y12 y13 y14 s1 f1 (h12.trans g9) (h13.trans g10) (h14.trans g11) ea rfl es (nI m) (by unfold zfb4; rw [if_neg cb, zN_nI (by omega), if_pos cr])
        · rw [if_neg cr]
          exact tail M1 y12 y13 y14 _ _ _ 1 y12 y13 y14 s1 f1 (h12.trans g9) (h13.trans g10) (h14.trans g11) ea rfl es (nI i) (by unfold zfb4; rw [if_neg cb, zN_nI (by omega), if_neg cr])
    · have hf : zfly A i = false := by rw [hfl]; exact decide_eq_false c8
      rw [hf, if_neg (show ¬ false = true by decide)] at g9 g10 g11
      rw [if_neg c8]
      refine mid 0 (by rw [hf]; rfl) _ fun M1 y12 y13 y14 s1 f1 h12 h13 h14 => ?_
      have ea : air ||| 0 = zfa4 A i air := by unfold zfa4; rw [hf, if_neg (by decide), or0]
      have es : s + A i 7 = zfs4 A i s := rfl
      rw [zL_eq, zx7, zxI hi4 (by omega), zxN hi4 (by omega), hread M1 s1, zL_eq]
      by_cases cb : b < 0
      · rw [if_pos cb]
        exact tail M1 0 0 0 _ _ _ 0 y12 y13 y14 s1 f1 g9 g10 g11 ea rfl es (nI i) (by unfold zfb4; rw [if_pos cb])
      · obtain ⟨m, hm, rfl⟩ : ∃ m, m < zKn A ∧ b = nI m := by rcases hb with hb | hb; exact absurd hb cb; exact hb
        rw [if_neg cb, zxI hi4 (by omega), zx7, zxI (show m < 4 by omega) (by omega), zxN (show m < 4 by omega) (by omega), s1.r (show m < 4 by omega) (show 7 < 12 by omega)]
        by_cases cr : A i 7 ≤ A m 7
        · rw [if_pos cr]
          exact tail M1 0 0 0 _ _ _ 0 y12 y13 y14 s1 f1 g9 g10 g11 ea rfl es (nI m) (by unfold zfb4; rw [if_neg cb, zN_nI (by omega), if_pos cr])
        · rw [if_neg cr]
          exact tail M1 0 0 0 _ _ _ 0 y12 y13 y14 s1 f1 g9 g10 g11 ea rfl es (nI i) (by unfold zfb4; rw [if_neg cb, zN_nI (by omega), if_neg cr])
/-! the sums are the class's counts -/
theorem zfa4_is {A : zA} (h : zKn A ≤ 6) : zf (zfa4 A) (zKn A) 0 0 = zmk (zfly A) := by
  unfold zmk
  exact (zf_cut h _ (fun p h1 h2 m => by
    show (if zfly A p = true then m ||| zbit p else m) = m
    rw [if_neg (fun hf => by have := (zfly_lt hf).1; omega)])).symm
theorem zfp4_in {A : zA} {k : Nat} : ∀ (c o m : Nat), o + c ≤ k → zf (zx1p A k) c o (nI m) = nI (zf (fun o m => if zcr A k o = true then m + 1 else m) c o m) := by
  intro c
  induction c with
  | zero => intro o m _; rfl
  | succ c ih =>
    intro o m ho
    show zf (zx1p A k) c (o + 1) (zx1p A k o (nI m)) = nI (zf _ c (o + 1) (if zcr A k o = true then m + 1 else m))
    rw [← ih (o + 1) _ (by omega)]
    congr 1
    unfold zx1p
    by_cases hc : zcr A k o = true
    · rw [if_pos ⟨hc, by omega⟩, if_pos hc, nI_1]
    · rw [if_neg (fun q => hc q.1), if_neg hc]
theorem zfp4_k {A : zA} {k m : Nat} (hk : k ≤ zKn A) : zfp4 A k (nI m) = nI (zf (fun o m => if zcr A k o = true then m + 1 else m) k 0 m) := by
  unfold zfp4
  rw [zf_cut hk]
  · exact zfp4_in k 0 m (by omega)
  · intro o h1 h2 s
    unfold zx1p; rw [if_neg (fun q => by omega)]
theorem zfp4_is {A : zA} (h : zKn A ≤ 6) : zf (zfp4 A) (zKn A) 0 0 = nI (zpr A 6) := by
  have key : ∀ (c i m : Nat), i + c ≤ zKn A → zf (zfp4 A) c i (nI m) = nI (zf (fun k m => zf (fun o m => if zcr A k o = true then m + 1 else m) k 0 m) c i m) := by
    intro c
    induction c with
    | zero => intro i m _; rfl
    | succ c ih =>
      intro i m hi
      show zf (zfp4 A) c (i + 1) (zfp4 A i (nI m)) = nI (zf _ c (i + 1) (zf (fun o m => if zcr A i o = true then m + 1 else m) i 0 m))
      rw [zfp4_k (by omega)]
      exact ih (i + 1) _ (by omega)
  have e6 : zpr A 6 = zpr A (zKn A) := by
    unfold zpr
    refine zf_cut h 0 (fun k h1 h2 m => ?_)
    refine zf_id k 0 m (fun o _ _ m => ?_)
    rw [zcr_out (Or.inl h1), if_neg (by decide)]
  rw [e6]
  exact key (zKn A) 0 0 (by omega)
theorem zfb4_is {A : zA} (h : zKn A ≤ 6) : zf (zfb4 A) (zKn A) 0 (-6) = if zKn A = 0 then -6 else nI (zld A) := by
  by_cases h0 : zKn A = 0
  · rw [h0, if_pos rfl]; rfl
  · rw [if_neg h0]
    obtain ⟨K, hK⟩ : ∃ K, zKn A = K + 1 := ⟨zKn A - 1, by omega⟩
    unfold zld
    rw [hK, Nat.add_sub_cancel]
    show zf (zfb4 A) K 1 (zfb4 A 0 (-6)) = _
    have key : ∀ (c i m : Nat), i + c ≤ 6 → m < 6 → zf (zfb4 A) c i (nI m) = nI (zf (fun p m => if A p 7 ≤ A m 7 then m else p) c i m) := by
      intro c
      induction c with
      | zero => intro i m _ _; rfl
      | succ c ih =>
        intro i m hi hm
        show zf (zfb4 A) c (i + 1) (zfb4 A i (nI m)) = nI (zf _ c (i + 1) (if A i 7 ≤ A m 7 then m else i))
        have e : zfb4 A i (nI m) = nI (if A i 7 ≤ A m 7 then m else i) := by
          unfold zfb4
          rw [if_neg (nI_pos (by omega)), zN_nI (by omega)]
          by_cases hc : A i 7 ≤ A m 7
          · rw [if_pos hc, if_pos hc]
          · rw [if_neg hc, if_neg hc]
        rw [e]
        exact ih (i + 1) _ (by omega) (by split <;> omega)
    have e0 : zfb4 A 0 (-6) = nI 0 := by unfold zfb4; rw [if_pos (by decide)]
    rw [e0]
    exact key K 1 0 (by omega) (by omega)
theorem eL_same {M : zM} {A : zA} (hs : zSt M A) (h4 : zKn A ≤ 4) : ∃ M', fL_same M = some (1, M') ∧ zSt M' A ∧ zhi M M' := by
  unfold fL_same
  have key : ∀ (kk : zM → Int32 → Int32 → Int32 → Int32 → Int32 → Option (Int32 × zM)), (∀ M1, zSt M1 A → zhi M M1 → ∃ M', kk M1 (zmk (zfly A)) (nI (zpr A 6)) (zsp A) (if zKn A = 0 then -6 else nI (zld A)) (nI (zKn A)) = some (1, M') ∧ zSt M' A ∧ zhi M M') → ∃ M', fL_same_L16 kk 2000 M 0 0 0 (-6) 0 = some (1, M') ∧ zSt M' A ∧ zhi M M' := by
    intro kk hk
    obtain ⟨M1, e1, s1, f1⟩ := lS_o h4 (kk := kk) (zKn A) 0 2000 0 0 0 (-6) M (by omega) (by omega) (Or.inl (by decide)) hs
    rw [zfa4_is (by omega), zfp4_is (by omega), zfb4_is (by omega)] at e1
    have e1' : fL_same_L16 kk 2000 M 0 0 0 (-6) 0 = _ := e1
    rw [e1']
    exact hk M1 s1 f1
  refine key _ fun M1 s1 f1 => ?_
  have h6 : ∀ {M : zM}, zSt M A → ∀ {p : Nat}, p < 4 → M 26 0 p = A 6 p := fun hs p hp => by rw [← hs.2]; exact zls6 (b := 26) hp
  obtain ⟨M2, e2, s2, f2⟩ := s1.q (p_count0 s1.1)
  obtain ⟨M3, e3, s3, f3⟩ := s2.q (p_count1 s2.1)
  obtain ⟨M4, e4, s4, f4⟩ := s3.q (p_count2 s3.1)
  obtain ⟨M5, e5, s5, f5⟩ := s4.q (p_count3 s4.1)
  obtain ⟨M6, e6, s6, f6⟩ := s5.q (p_count4 s5.1)
  obtain ⟨M7, e7, s7, f7⟩ := s6.q (p_count5 s6.1)
  obtain ⟨M8, e8, s8, f8⟩ := s7.q (p_count6 s7.1)
  obtain ⟨M9, e9, s9, f9⟩ := s8.q (p_count7 s8.1)
  refine ⟨M9, ?_, s9, f1.trans (f2.trans (f3.trans (f4.trans (f5.trans (f6.trans (f7.trans (f8.trans f9)))))))⟩
  rw [e2, zC_some, zI_eq (by decide), s2.n, if_pos hs.ok.1, e3, zC_some, if_pos rfl, e4, zC_some, if_pos rfl, e5, zC_some, zI_eq (by decide), show zN 2 = 2 from rfl, h6 s5 (by omega), if_pos rfl, e6, zC_some, zI_eq (by decide), show zN 1 = 1 from rfl, h6 s6 (by omega), if_pos rfl, e7, zC_some, if_pos rfl, e8, zC_some, if_pos rfl, e9, zC_some, zI_eq (by decide), show zN 3 = 3 from rfl, h6 s9 (by omega), if_pos rfl]
