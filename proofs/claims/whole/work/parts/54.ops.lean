/-! ===== calls: put ===== -/
theorem zCR.pad {M M' : zM} {σ : zSg} {A : zA} {L : List Int32} (h : zCR M σ) (hA : zcA M' 0 = A) (hf : ∀ k i, ¬ (1 ≤ k ∧ k ≤ 14 ∧ i = 0) → k ≠ 24 → k ≠ 25 → M' k i = M k i) (hl : M' 24 0 1 = nI L.length) (hp : ∀ q c, L[q]? = some c → M' 25 0 q = c) : zCR M' (A, σ.2.1, σ.2.2.1, σ.2.2.2.1, L) := by
  have e : ∀ j, j ≠ 0 → zcA M' j = zcA M j := fun j hj => zcA_eq (fun k h1 h2 => hf k j (by omega) (by omega) (by omega))
  obtain ⟨h1, ⟨nx, n1, n2, n3⟩, h3, h4, h5, h6⟩ := h
  refine ⟨hA, ⟨nx, n1, by rw [hf 21 0 (by omega) (by omega) (by omega)]; exact n2, fun n hn => by rw [e _ (by omega)]; exact n3 n hn⟩, by rw [hf 21 0 (by omega) (by omega) (by omega)]; exact h3, ?_, hl, hp⟩
  intro i hi; rw [e _ (by omega), hf 23 i (by omega) (by omega) (by omega)]; exact h4 i hi
theorem zRR.pad {N N' : zM} {σ : zSg} {A : zA} {L : List Int32} (h : zRR N σ) (hA : zrA (N' 27 0) = A) (hf : ∀ k i, k ≠ 26 → k ≠ 27 → k ≠ 32 → N' k i = N k i) (h3 : N' 26 0 3 = N 26 0 3) (hl : N' 26 0 7 = nI L.length) (hp : ∀ q c, L[q]? = some c → N' 32 0 q = c) : zRR N' (A, σ.2.1, σ.2.2.1, σ.2.2.2.1, L) := by
  obtain ⟨h1, h2, h4, h5, h6, h7⟩ := h
  refine ⟨hA, by rw [h3]; exact h2, ?_, ?_, hl, hp⟩
  · intro n hn; rw [hf 29 0 (by omega) (by omega) (by omega)]; exact h4 n hn
  · intro i hi; rw [hf 30 0 (by omega) (by omega) (by omega), hf 31 0 (by omega) (by omega) (by omega)]; exact h5 i hi
/-! bytes -/
theorem lg0 {x : Int64} : (lg_cmp x 0 = 0) = (x = 0) := by
  apply propext
  unfold lg_cmp
  by_cases h : x = 0
  · subst h; decide
  · rw [if_neg h]
    constructor
    · intro q
      split at q
      · exact absurd q (by decide)
      · exact absurd q (by decide)
    · intro q; exact absurd q h
def zby (x : Int64) : Nat := x.toUInt64.toNat % 256
theorem zby_lt {x : Int64} : zby x < 256 := Nat.mod_lt _ (by omega)
theorem zby_n {x : Int64} : (x &&& 255).toBitVec.toNat = zby x := by
  have e : (x &&& 255).toBitVec = x.toBitVec &&& 255#64 := rfl
  rw [e, BitVec.toNat_and]
  show x.toBitVec.toNat &&& (2 ^ 8 - 1) = _
  rw [Nat.and_two_pow_sub_one_eq_mod]
  rfl
theorem zby_32 {x : Int64} : (x &&& 255).toInt32 = nI (zby x) := by
  have hlt := zby_lt (x := x)
  have e1 : (x &&& 255).toInt = (zby x : Int) := by
    show (x &&& 255).toBitVec.toInt = _
    rw [BitVec.toInt_eq_toNat_of_lt (by rw [zby_n]; omega), zby_n]
  refine Int32.toInt_inj.mp ?_
  rw [Int64.toInt_toInt32, e1, nI_toInt (by omega)]
  exact Int.bmod_eq_of_le (by omega) (by omega)
theorem zby_0 {x : Int64} : (x &&& 255 = 0) = (zby x = 0) := by
  apply propext
  rw [← zby_n]
  constructor
  · intro h; rw [h]; rfl
  · intro h
    apply Int64.toBitVec_inj.mp
    apply BitVec.eq_of_toNat_eq
    rw [h]; rfl
def zyu (v : Int64) (i : Nat) : UInt64 := UInt64.ofNat (v.toUInt64.toNat >>> (8 * i))
def zys (v : Int64) (i : Nat) : Int64 := (zyu v i).toInt64
theorem zyu_n {v : Int64} {i : Nat} : (zyu v i).toNat = v.toUInt64.toNat >>> (8 * i) := by
  unfold zyu
  rw [UInt64.toNat_ofNat']
  have h := v.toUInt64.toNat_lt
  have h2 : v.toUInt64.toNat >>> (8 * i) ≤ v.toUInt64.toNat := by rw [Nat.shiftRight_eq_div_pow]; exact Nat.div_le_self _ _
  exact Nat.mod_eq_of_lt (by omega)
theorem zyu_sh {v : Int64} {i : Nat} (hi : i < 8) : v.toUInt64 >>> ((8 * nI i).toInt64.toUInt64 &&& Int64.toUInt64 63) = zyu v i := by
  apply UInt64.toNat_inj.mp
  rw [UInt64.toNat_shiftRight, zyu_n]
  congr 1
  obtain rfl | rfl | rfl | rfl | rfl | rfl | rfl | rfl : i = 0 ∨ i = 1 ∨ i = 2 ∨ i = 3 ∨ i = 4 ∨ i = 5 ∨ i = 6 ∨ i = 7 := by omega
  all_goals decide
theorem zyu_st {v : Int64} {i : Nat} : ((zys v i).toUInt64 >>> ((8 : Int32).toInt64.toUInt64 &&& Int64.toUInt64 63)).toInt64 = zys v (i + 1) := by
  unfold zys
  congr 1
  apply UInt64.toNat_inj.mp
  show ((zyu v i) >>> ((8 : Int32).toInt64.toUInt64 &&& Int64.toUInt64 63)).toNat = _
  rw [UInt64.toNat_shiftRight, zyu_n, zyu_n, show 8 * (i + 1) = 8 * i + 8 by omega, Nat.shiftRight_add]
  congr 1
theorem zys_0 {v : Int64} : zys v 0 = v := by
  show (zyu v 0).toInt64 = v.toUInt64.toInt64
  congr 1
  apply UInt64.toNat_inj.mp
  rw [zyu_n]
  rfl
theorem zys_8 {v : Int64} : zys v 8 = 0 := by
  have h : zyu v 8 = 0 := by
    apply UInt64.toNat_inj.mp
    rw [zyu_n, Nat.shiftRight_eq_div_pow]
    have h := v.toUInt64.toNat_lt
    show v.toUInt64.toNat / 2 ^ 64 = 0
    exact Nat.div_eq_of_lt h
  unfold zys; rw [h]; rfl
def zb8 (v : Int64) (i : Nat) : Nat := zby (zys v i)
theorem zb8_lt {v : Int64} {i : Nat} : zb8 v i < 256 := zby_lt
def zok8 (b : Nat) : Bool := decide (33 ≤ b ∧ b ≤ 126)
theorem zwin8 {b : Nat} (h : b < 256) : zwin (nI b) (33 : Int32).toInt (126 : Int32).toInt = zok8 b := by
  unfold zwin zok8
  rw [nI_toInt (by omega), show (33 : Int32).toInt = 33 from rfl, show (126 : Int32).toInt = 126 from rfl, Bool.eq_iff_iff, Bool.and_eq_true, decide_eq_true_iff, decide_eq_true_iff, decide_eq_true_iff]
  omega
theorem e6_sign {M : zM} {v : Int64} {i : Nat} (hi : i < 8) : fX6_signAt M v (nI i) = some (nI (zb8 v i), M) := by
  unfold fX6_signAt
  rw [zyu_sh hi, zby_32]
  rfl
def zyc (v : Int64) : Nat → Nat → Nat
  | 0, i => i
  | c + 1, i => if zb8 v i = 0 then (if zys v i = 0 then i else 0) else if zok8 (zb8 v i) = true then zyc v c (i + 1) else 0
def zyi (v : Int64) : Nat → Nat → Bool → Nat × Bool
  | 0, i, ok => (i, ok)
  | c + 1, i, ok => if zb8 v i = 0 then (i, ok) else zyi v c (i + 1) (ok && zok8 (zb8 v i))
theorem zyi_f {v : Int64} : ∀ (c i : Nat), (zyi v c i false).2 = false := by
  intro c
  induction c with
  | zero => intro i; rfl
  | succ c ih =>
    intro i
    show (if zb8 v i = 0 then (i, false) else zyi v c (i + 1) (false && zok8 (zb8 v i))).2 = false
    split
    · rfl
    · exact ih (i + 1)
theorem zyc_yi {v : Int64} : ∀ (c i : Nat), i + c = 8 → zyc v c i = if (zyi v c i true).2 = true ∧ zys v (zyi v c i true).1 = 0 then (zyi v c i true).1 else 0 := by
  intro c
  induction c with
  | zero =>
    intro i hi
    obtain rfl : i = 8 := by omega
    show 8 = if true = true ∧ zys v 8 = 0 then 8 else 0
    rw [if_pos ⟨rfl, zys_8⟩]
  | succ c ih =>
    intro i hi
    show (if zb8 v i = 0 then (if zys v i = 0 then i else 0) else if zok8 (zb8 v i) = true then zyc v c (i + 1) else 0) = if (if zb8 v i = 0 then (i, true) else zyi v c (i + 1) (true && zok8 (zb8 v i))).2 = true ∧ zys v (if zb8 v i = 0 then (i, true) else zyi v c (i + 1) (true && zok8 (zb8 v i))).1 = 0 then (if zb8 v i = 0 then (i, true) else zyi v c (i + 1) (true && zok8 (zb8 v i))).1 else 0
    by_cases hb : zb8 v i = 0
    · rw [if_pos hb, if_pos hb]
      by_cases hr : zys v i = 0
      · rw [if_pos hr, if_pos ⟨rfl, hr⟩]
      · rw [if_neg hr, if_neg (fun h => hr h.2)]
    · rw [if_neg hb, if_neg hb]
      cases ho : zok8 (zb8 v i)
      · rw [if_neg (by decide), if_neg (fun h => absurd ((zyi_f c (i + 1)).symm.trans h.1) (by decide))]
      · rw [if_pos rfl]; exact ih (i + 1) (by omega)
theorem zyi_in {v : Int64} : ∀ (c i : Nat) (ok : Bool), i ≤ (zyi v c i ok).1 ∧ (zyi v c i ok).1 ≤ i + c ∧ ((zyi v c i ok).2 = true → ok = true ∧ ∀ j, i ≤ j → j < (zyi v c i ok).1 → zok8 (zb8 v j) = true) := by
  intro c
  induction c with
  | zero => intro i ok; exact ⟨Nat.le_refl _, Nat.le_refl _, fun h => ⟨h, fun j h1 h2 => by have h2' : j < i := h2; omega⟩⟩
  | succ c ih =>
    intro i ok
    show i ≤ (if zb8 v i = 0 then (i, ok) else zyi v c (i + 1) (ok && zok8 (zb8 v i))).1 ∧ (if zb8 v i = 0 then (i, ok) else zyi v c (i + 1) (ok && zok8 (zb8 v i))).1 ≤ i + (c + 1) ∧ ((if zb8 v i = 0 then (i, ok) else zyi v c (i + 1) (ok && zok8 (zb8 v i))).2 = true → ok = true ∧ ∀ j, i ≤ j → j < (if zb8 v i = 0 then (i, ok) else zyi v c (i + 1) (ok && zok8 (zb8 v i))).1 → zok8 (zb8 v j) = true)
    by_cases hb : zb8 v i = 0
    · rw [if_pos hb]
      exact ⟨Nat.le_refl _, by show i ≤ i + (c + 1); omega, fun h => ⟨h, fun j h1 h2 => by have h2' : j < i := h2; omega⟩⟩
    · rw [if_neg hb]
      obtain ⟨h1, h2, h3⟩ := ih (i + 1) (ok && zok8 (zb8 v i))
      refine ⟨by omega, by omega, fun h => ?_⟩
      obtain ⟨h4, h5⟩ := h3 h
      rw [Bool.and_eq_true] at h4
      refine ⟨h4.1, fun j j1 j2 => ?_⟩
      by_cases hj : j = i
      · rw [hj]; exact h4.2
      · exact h5 j (by omega) j2
theorem l6_signs {v : Int64} {M : zM} : ∀ (c i n : Nat), i + c = 8 → c < n → fX6_signsIn_L2 (fun M26 v27 => some (8, M26)) v n M (nI i) = some (nI (zyc v c i), M) := by
  intro c
  induction c with
  | zero =>
    intro i n hi hn
    obtain ⟨n, rfl⟩ : ∃ q, n = q + 1 := ⟨n - 1, by omega⟩
    obtain rfl : i = 8 := by omega
    rfl
  | succ c ih =>
    intro i n hi hn
    obtain ⟨n, rfl⟩ : ∃ q, n = q + 1 := ⟨n - 1, by omega⟩
    unfold fX6_signsIn_L2
    have hc : ¬ (8 : Int32) ≤ nI i := nI_ge (a := i) (b := 8) (by omega) (by omega)
    have hb := zb8_lt (v := v) (i := i)
    rw [if_neg hc, e6_sign (show i < 8 by omega), zC_some, zyu_sh (show i < 8 by omega), e2_within, zwin8 hb, zC_some, zL_eq, nI_1]
    show _ = some (nI (if zb8 v i = 0 then (if zys v i = 0 then i else 0) else if zok8 (zb8 v i) = true then zyc v c (i + 1) else 0), M)
    by_cases h0 : zb8 v i = 0
    · rw [if_pos (by rw [h0]; rfl), if_pos h0]
      show (if lg_cmp (zys v i) 0 = 0 then _ else _) = _
      by_cases hr : zys v i = 0
      · rw [if_pos (lg0.mpr hr), if_pos hr]
      · rw [if_neg (fun h => hr (lg0.mp h)), if_neg hr]; rfl
    · rw [if_neg (by rw [show (0 : Int32) = nI 0 from rfl, zeq (by omega) (by omega)]; exact h0), if_neg h0]
      cases ho : zok8 (zb8 v i)
      · rw [if_pos (show zb false = 0 from rfl), if_neg (by decide)]; rfl
      · rw [if_neg (show ¬ zb true = 0 by decide), if_pos rfl]
        exact ih (i + 1) n (by omega) (by omega)
theorem e6_signs {v : Int64} {M : zM} : fX6_signsIn M v = some (nI (zyc v 8 0), M) := l6_signs 8 0 2000 (by omega) (by omega)
theorem l7_put8 {v : Int64} {N : zM} {k : zM → Int32 → Int64 → Int32 → Option (Int32 × zM)} : ∀ (c i n : Nat) (ok : Bool), i + c = 8 → c < n → fX7_put_L8 k v n N (nI i) (zys v i) (zb ok) = k N (nI (zyi v c i ok).1) (zys v (zyi v c i ok).1) (zb (zyi v c i ok).2) := by
  intro c
  induction c with
  | zero =>
    intro i n ok hi hn
    obtain ⟨n, rfl⟩ : ∃ q, n = q + 1 := ⟨n - 1, by omega⟩
    obtain rfl : i = 8 := by omega
    unfold fX7_put_L8
    rw [if_pos (by decide)]
    rfl
  | succ c ih =>
    intro i n ok hi hn
    obtain ⟨n, rfl⟩ : ∃ q, n = q + 1 := ⟨n - 1, by omega⟩
    unfold fX7_put_L8
    have hc : ¬ (8 : Int32) ≤ nI i := nI_ge (a := i) (b := 8) (by omega) (by omega)
    have hb := zb8_lt (v := v) (i := i)
    have hby : zby (zys v i) = zb8 v i := rfl
    simp only [if_neg hc, lg0, zby_0, zby_32, hby, zL_eq, zyu_st, nI_1, e7_within, zwin8 hb, zC_some]
    show _ = k N (nI (if zb8 v i = 0 then (i, ok) else zyi v c (i + 1) (ok && zok8 (zb8 v i))).1) (zys v (if zb8 v i = 0 then (i, ok) else zyi v c (i + 1) (ok && zok8 (zb8 v i))).1) (zb (if zb8 v i = 0 then (i, ok) else zyi v c (i + 1) (ok && zok8 (zb8 v i))).2)
    by_cases h0 : zb8 v i = 0
    · rw [if_pos h0, if_pos h0]
    · rw [if_neg h0, if_neg h0, ← ih (i + 1) n (ok && zok8 (zb8 v i)) (by omega) (by omega)]
      cases ok
      · rw [if_pos (show zb false = 0 from rfl)]; rfl
      · rw [if_neg (show ¬ zb true = 0 by decide)]
        cases ho : zok8 (zb8 v i)
        · rw [if_pos (show zb false = 0 from rfl)]; rfl
        · rw [if_neg (show ¬ zb true = 0 by decide)]; rfl
theorem e7_put8 {v : Int64} {N : zM} {k : zM → Int32 → Int64 → Int32 → Option (Int32 × zM)} : fX7_put_L8 k v 2000 N 0 v 1 = k N (nI (zyi v 8 0 true).1) (zys v (zyi v 8 0 true).1) (zb (zyi v 8 0 true).2) := by
  have h := l7_put8 (v := v) (N := N) (k := k) 8 0 2000 true (by omega) (by omega)
  rw [zys_0] at h
  exact h
/-! appending -/
def zbl (v : Int64) : Nat → List Int32
  | 0 => []
  | c + 1 => nI (zb8 v c) :: zbl v c
theorem zbl_len {v : Int64} : ∀ c, (zbl v c).length = c := by
  intro c
  induction c with
  | zero => rfl
  | succ c ih => show (nI (zb8 v c) :: zbl v c).length = c + 1; rw [List.length_cons, ih]
theorem zbl_mem {v : Int64} {x : Int32} : ∀ c, x ∈ zbl v c → ∃ j, j < c ∧ x = nI (zb8 v j) := by
  intro c
  induction c with
  | zero => intro h; exact absurd h (by show ¬ x ∈ ([] : List Int32); simp)
  | succ c ih =>
    intro h
    have h' : x ∈ nI (zb8 v c) :: zbl v c := h
    rcases List.mem_cons.mp h' with e | h2
    · exact ⟨c, by omega, e⟩
    · obtain ⟨j, h3, h4⟩ := ih h2; exact ⟨j, by omega, h4⟩
theorem zap {L : List Int32} {x : Int32} {f : Nat → Int32} (h : ∀ q c, L[q]? = some c → f q = c) : ∀ q c, (L ++ [x])[q]? = some c → upd f L.length x q = c := by
  intro q c hq
  unfold upd
  rw [List.getElem?_append] at hq
  by_cases hc : q < L.length
  · rw [if_pos hc] at hq
    rw [if_neg (by omega)]; exact h q c hq
  · rw [if_neg hc] at hq
    obtain ⟨d, hd⟩ : ∃ d, d = q - L.length := ⟨_, rfl⟩
    rw [← hd] at hq
    cases d with
    | zero => rw [if_pos (by omega)]; exact Option.some.inj hq
    | succ d => exact absurd hq (by simp)
theorem znar8 : ∀ b : Fin 256, vp_nar .char (((nI b.val).toUInt32 % 65536).toInt32) = nI b.val := by decide +kernel
theorem e1_app {M : zM} {L : List Int32} {b : Nat} (hb : b < 256) (h60 : L.length < 60) (hl : M 24 0 1 = nI L.length) : fX1_append M (nI b) = some ((), zw (zw M 25 0 L.length (nI b)) 24 0 1 (nI (L.length + 1))) := by
  unfold fX1_append
  rw [hl, if_neg (nI_pos (by omega)), if_neg (show ¬ (60 : Int32) ≤ nI L.length from nI_ge (b := 60) h60 (by omega)), zI_eq (zix_nI h60 (by omega)), zL_eq, zL_eq, zN_nI (by omega), znar8 ⟨b, hb⟩, zw_ne (by omega), hl, nI_1]
theorem l6_put {v : Int64} {a3 : Int32} {k : zM → Int32 → Option (Int32 × zM)} : ∀ (c n : Nat) (M : zM) (L : List Int32), c ≤ 8 → c < n → L.length + c ≤ 60 → M 24 0 1 = nI L.length → (∀ q x, L[q]? = some x → M 25 0 q = x) →
    ∃ M', fX6_put_L34 k v a3 n M (zdn c) = k M' (-1) ∧ M' 24 0 1 = nI (L ++ zbl v c).length ∧ (∀ q x, (L ++ zbl v c)[q]? = some x → M' 25 0 q = x) ∧ ∀ kk i, kk ≠ 24 → kk ≠ 25 → M' kk i = M kk i := by
  intro c
  induction c with
  | zero =>
    intro n M L hc hn h60 hl hp
    obtain ⟨n, rfl⟩ : ∃ q, n = q + 1 := ⟨n - 1, by omega⟩
    refine ⟨M, rfl, ?_, ?_, fun _ _ _ _ => rfl⟩
    · show M 24 0 1 = nI (L ++ []).length
      rw [List.append_nil]; exact hl
    · show ∀ q x, (L ++ [])[q]? = some x → M 25 0 q = x
      rw [List.append_nil]; exact hp
  | succ c ih =>
    intro n M L hc hn h60 hl hp
    obtain ⟨n, rfl⟩ : ∃ q, n = q + 1 := ⟨n - 1, by omega⟩
    unfold fX6_put_L34
    have hc0 : ¬ nI c < 0 := nI_pos (by omega)
    have ez : zdn (c + 1) = nI c := rfl
    rw [ez, if_neg hc0, e6_sign (by omega), zC_some, e1_app zb8_lt (by omega) hl, zC_some, zL_eq, zdn_step (by omega)]
    obtain ⟨M', e, r1, r2, r3⟩ := ih n (zw (zw M 25 0 L.length (nI (zb8 v c))) 24 0 1 (nI (L.length + 1))) (L ++ [nI (zb8 v c)]) (by omega) (by omega) (by rw [List.length_append, List.length_singleton]; omega) (by rw [zw_at, List.length_append, List.length_singleton]; unfold upd; rw [if_pos rfl]) (by rw [zw_ne (by omega), zw_at]; exact zap hp)
    rw [List.append_assoc] at r1 r2
    refine ⟨M', e, r1, r2, fun kk i h1 h2 => ?_⟩
    rw [r3 kk i h1 h2, zw_ne (by omega), zw_ne (by omega)]
theorem l7_put {v : Int64} {a3 a6 : Int32} {a4 : Int64} {k : zM → Int32 → Option (Int32 × zM)} : ∀ (c n : Nat) (M : zM) (L : List Int32), c ≤ 8 → c < n → L.length + c ≤ 60 → M 26 0 7 = nI L.length → (∀ q x, L[q]? = some x → M 32 0 q = x) →
    ∃ M', fX7_put_L105 k v a3 a4 a6 n M (zdn c) = k M' (-1) ∧ M' 26 0 7 = nI (L ++ zbl v c).length ∧ (∀ q x, (L ++ zbl v c)[q]? = some x → M' 32 0 q = x) ∧ (∀ kk i, kk ≠ 26 → kk ≠ 32 → M' kk i = M kk i) ∧ ∀ s, s ≠ 7 → M' 26 0 s = M 26 0 s := by
  intro c
  induction c with
  | zero =>
    intro n M L hc hn h60 hl hp
    obtain ⟨n, rfl⟩ : ∃ q, n = q + 1 := ⟨n - 1, by omega⟩
    refine ⟨M, rfl, ?_, ?_, fun _ _ _ _ => rfl, fun _ _ => rfl⟩
    · show M 26 0 7 = nI (L ++ []).length
      rw [List.append_nil]; exact hl
    · show ∀ q x, (L ++ [])[q]? = some x → M 32 0 q = x
      rw [List.append_nil]; exact hp
  | succ c ih =>
    intro n M L hc hn h60 hl hp
    obtain ⟨n, rfl⟩ : ∃ q, n = q + 1 := ⟨n - 1, by omega⟩
    unfold fX7_put_L105
    have hc0 : ¬ nI c < 0 := nI_pos (by omega)
    have ez : zdn (c + 1) = nI c := rfl
    have eb : ((zyu v c).toInt64 &&& 255).toInt32 = nI (zb8 v c) := zby_32
    rw [ez, if_neg hc0, hl, zI_eq (zix_nI (show L.length < 60 by omega) (by omega)), zL_eq, zL_eq, zL_eq, zdn_step (by omega), zN_nI (by omega), zyu_sh (by omega), eb, zw_ne (by omega), hl, nI_1]
    obtain ⟨M', e, r1, r2, r3, r4⟩ := ih n (zw (zw M 32 0 L.length (nI (zb8 v c))) 26 0 7 (nI (L.length + 1))) (L ++ [nI (zb8 v c)]) (by omega) (by omega) (by rw [List.length_append, List.length_singleton]; omega) (by rw [zw_at, List.length_append, List.length_singleton]; unfold upd; rw [if_pos rfl]) (by rw [zw_ne (by omega), zw_at]; exact zap hp)
    rw [List.append_assoc] at r1 r2
    refine ⟨M', e, r1, r2, fun kk i h1 h2 => ?_, fun s hs => ?_⟩
    · rw [r3 kk i h1 h2, zw_ne (by omega), zw_ne (by omega)]
    · rw [r4 s hs, zw_at]; unfold upd; rw [if_neg hs, zw_ne (by omega)]
theorem j_put {M N : zM} {σ : zSg} {v : Int64} (h0 : zOK σ) (h1 : zCR M σ) (h2 : zRR N σ) : zJ (fX6_put M v) (fX7_put N v) M N := by
  have hl6 := h1.2.2.2.2.1
  have hl7 := h2.2.2.2.2.1
  have h60 := h0.2.2.2.2.2.1
  unfold fX6_put fX7_put
  rw [e6_signs, zC_some, e7_put8, zyc_yi 8 0 (by omega)]
  obtain ⟨_, hn8, hin⟩ := zyi_in (v := v) 8 0 true
  obtain ⟨n, hn⟩ : ∃ n, n = (zyi v 8 0 true).1 := ⟨_, rfl⟩
  obtain ⟨ok, hok⟩ : ∃ b, b = (zyi v 8 0 true).2 := ⟨_, rfl⟩
  rw [← hn] at hn8 hin
  rw [← hok] at hin
  rw [← hn, ← hok]
  by_cases n0 : n = 0
  · rw [n0, if_pos (show nI (if ok = true ∧ zys v 0 = 0 then 0 else 0) = 0 by split <;> rfl), if_pos (show nI 0 = (0 : Int32) from rfl)]
    exact zJ.ret h0 h1 h2
  have nn : ¬ nI n = 0 := by rw [show (0 : Int32) = nI 0 from rfl, zeq (by omega) (by omega)]; exact n0
  rw [if_neg (c := nI n = 0) nn]
  cases ok with
  | false =>
    rw [if_neg (c := false = true ∧ zys v n = 0) (fun h => absurd h.1 (by decide)), if_pos (show nI 0 = (0 : Int32) from rfl), if_pos (show zb false = 0 from rfl)]
    exact zJ.ret h0 h1 h2
  | true =>
    rw [if_neg (show ¬ zb true = 0 by decide)]
    by_cases hr : zys v n = 0
    · rw [if_pos (c := true = true ∧ zys v n = 0) ⟨rfl, hr⟩, if_neg (c := nI n = 0) nn, if_pos (lg0.mpr hr), hl6, hl7, nI_add]
      have hle : (nI (σ.2.2.2.2.length + n) ≤ (60 : Int32)) = (σ.2.2.2.2.length + n ≤ 60) := by rw [show (60 : Int32) = nI 60 from rfl, zle (by omega) (by omega)]
      simp only [hle]
      by_cases h6 : σ.2.2.2.2.length + n ≤ 60
      · rw [if_pos h6, if_pos h6, zL_eq, zL_eq]
        have ed : nI n - 1 = zdn n := by
          obtain ⟨m, rfl⟩ : ∃ m, n = m + 1 := ⟨n - 1, by omega⟩
          exact nI_dec (by omega)
        rw [ed]
        obtain ⟨M', e6, r1, r2, r3⟩ := l6_put (v := v) (a3 := nI n) (k := fun M28 v29 => some (M28 24 0 1, M28)) n 2000 M σ.2.2.2.2 hn8 (by omega) h6 hl6 h1.2.2.2.2.2
        obtain ⟨N', e7, s1, s2, s3, s4⟩ := l7_put (v := v) (a3 := nI n) (a4 := zys v n) (a6 := zb true) (k := fun M37 v38 => some (M37 26 0 7, M37)) n 2000 N σ.2.2.2.2 hn8 (by omega) h6 hl7 h2.2.2.2.2.2
        rw [e6, e7, r1, s1]
        refine ⟨_, M', N', (σ.1, σ.2.1, σ.2.2.1, σ.2.2.2.1, σ.2.2.2.2 ++ zbl v n), rfl, rfl, ⟨h0.1, h0.2.1, h0.2.2.1, h0.2.2.2.1, h0.2.2.2.2.1, ?_, fun c hc => ?_⟩, h1.pad ?_ (fun k i _ b c => r3 k i b c) r1 r2, h2.pad ?_ (fun k i a _ c => s3 k i a c) (s4 3 (by omega)) s1 s2, fun k i hk => r3 k i (by omega) (by omega), fun k i hk => s3 k i (by omega) (by omega)⟩
        · show (σ.2.2.2.2 ++ zbl v n).length ≤ 60
          rw [List.length_append, zbl_len]; exact h6
        · rcases List.mem_append.mp hc with hc | hc
          · exact h0.2.2.2.2.2.2 c hc
          · obtain ⟨j, j1, rfl⟩ := zbl_mem n hc
            have := (hin rfl).2 j (by omega) j1
            unfold zok8 at this
            rw [decide_eq_true_iff] at this
            rw [nI_toInt (by omega)]; omega
        · rw [zcA_eq (fun k a b => r3 k 0 (by omega) (by omega))]; exact h1.1
        · rw [s3 27 0 (by omega) (by omega)]; exact h2.1
      · rw [if_neg h6, if_neg h6]; exact zJ.ret h0 h1 h2
    · rw [if_neg (c := true = true ∧ zys v n = 0) (fun h => hr h.2), if_pos (show nI 0 = (0 : Int32) from rfl), if_neg (fun h => hr (lg0.mp h))]
      exact zJ.ret h0 h1 h2
