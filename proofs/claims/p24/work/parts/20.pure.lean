theorem zix_nI {i n : Nat} (h : i < n) (hn : n < 2 ^ 31) : zix (nI i) n = true := by
  unfold zix
  rw [nI_toInt (by omega)]
  simp
  omega
theorem zN_nI {i : Nat} (h : i < 2 ^ 31) : zN (nI i) = i := nI_clamp h
theorem zle {a b : Nat} (ha : a < 2 ^ 31) (hb : b < 2 ^ 31) : (nI a ≤ nI b) = (a ≤ b) := propext (nI_leI ha hb)
theorem zlt {a b : Nat} (ha : a < 2 ^ 31) (hb : b < 2 ^ 31) : (nI a < nI b) = (a < b) := propext (nI_ltI ha hb)
theorem zeq {a b : Nat} (ha : a < 2 ^ 31) (hb : b < 2 ^ 31) : (nI a = nI b) = (a = b) := propext (nI_eq ha hb)
def zb (b : Bool) : Int32 := if b = true then 1 else 0
theorem zb_0 {b : Bool} : (zb b = 0) = (b = false) := by cases b <;> simp [zb]
theorem zb_1 {b : Bool} : (zb b = 1) = (b = true) := by cases b <;> simp [zb]
theorem zb_01 {b : Bool} : zb b = 0 ∨ zb b = 1 := by cases b <;> simp [zb]
theorem zC_some {α ρ : Type} {a : α} {M : zM} {f : α → zM → Option ρ} : zC (some (a, M)) f = f a M := rfl
theorem zL_eq {α ρ : Type} {v : α} {f : α → Option ρ} : zL v f = f v := rfl
theorem zI_eq {ρ : Type} {i : Int32} {n : Nat} {f : Option ρ} (h : zix i n = true) : zI i n f = f := by unfold zI; rw [if_pos h]
theorem zV_eq {ρ : Type} {d : Int32} {f : Option ρ} (h : ¬ d = 0) : zV d f = f := by unfold zV; rw [if_neg h]
theorem zB_eq {ρ : Type} {b : Int32} {f : Option ρ} (h : b = 0 ∨ b = 1) : zB b f = f := by unfold zB; rw [if_pos h]
theorem zB_zb {ρ : Type} {b : Bool} {f : Option ρ} : zB (zb b) f = f := zB_eq zb_01
theorem zfn {v : Nat} {w : Int32} (h : w = nI v) {P : Int32 → Prop} (hp : P (nI v)) : P w := h ▸ hp
theorem znat {x : Int32} (h : 0 ≤ x.toInt) : ∃ n : Nat, n < 2 ^ 31 ∧ x = nI n ∧ x.toInt = (n : Int) := by
  refine ⟨x.toInt.toNat, ?_, ?_, ?_⟩
  · have := x.toInt_lt; omega
  · have h1 : x.toInt.toNat < 2 ^ 31 := by have := x.toInt_lt; omega
    exact Int32.toInt_inj.mp (by rw [nI_toInt h1]; omega)
  · omega
theorem zt_bound {x : Int32} : -2147483648 ≤ x.toInt ∧ x.toInt < 2147483648 := by
  have h1 := x.toInt_lt; have h2 := x.le_toInt; omega
theorem zt_add {x y : Int32} {a b : Int} (hx : x.toInt = a) (hy : y.toInt = b) (h1 : -2147483648 ≤ a + b) (h2 : a + b < 2147483648) : (x + y).toInt = a + b := by
  rw [Int32.toInt_add, hx, hy]
  exact Int.bmod_eq_of_le (by omega) (by omega)
theorem zt_sub {x y : Int32} {a b : Int} (hx : x.toInt = a) (hy : y.toInt = b) (h1 : -2147483648 ≤ a - b) (h2 : a - b < 2147483648) : (x - y).toInt = a - b := by
  rw [Int32.toInt_sub, hx, hy]
  exact Int.bmod_eq_of_le (by omega) (by omega)
theorem zt_mul {x y : Int32} {a b : Int} (hx : x.toInt = a) (hy : y.toInt = b) (h1 : -2147483648 ≤ a * b) (h2 : a * b < 2147483648) : (x * y).toInt = a * b := by
  rw [Int32.toInt_mul, hx, hy]
  exact Int.bmod_eq_of_le (by omega) (by omega)
theorem zt_neg {x : Int32} {a : Int} (hx : x.toInt = a) (h1 : -2147483648 < a) : (-x).toInt = -a := by
  rw [Int32.toInt_neg, hx]
  have := zt_bound (x := x)
  exact Int.bmod_eq_of_le (by omega) (by omega)
theorem zt_abs {x : Int32} {a : Int} (hx : x.toInt = a) (h1 : -2147483648 < a) : (zabs x).toInt = (a.natAbs : Int) := by
  unfold zabs
  have h0 : (0 : Int32).toInt = 0 := rfl
  split
  · next h =>
    have := Int32.le_iff_toInt_le.mp h
    rw [h0, hx] at this
    rw [hx]; omega
  · next h =>
    have hn : ¬ (0 : Int) ≤ a := fun q => h (Int32.le_iff_toInt_le.mpr (by rw [h0, hx]; exact q))
    rw [zt_sub h0 hx (by omega) (by have := zt_bound (x := x); omega)]
    omega
theorem zabs_nI {x : Int32} {a : Int} (hx : x.toInt = a) (h1 : -2147483648 < a) : zabs x = nI a.natAbs := by
  have hb := zt_bound (x := x)
  refine Int32.toInt_inj.mp ?_
  rw [zt_abs hx h1, nI_toInt (by omega)]
theorem zm_bound {a b : Int} {m n : Nat} (ha : a.natAbs ≤ m) (hb : b.natAbs ≤ n) : (a * b).natAbs ≤ m * n := by
  rw [Int.natAbs_mul]; exact Nat.mul_le_mul ha hb
def zf {σ : Type} (f : Nat → σ → σ) : Nat → Nat → σ → σ
  | 0, _, s => s
  | c + 1, i, s => zf f c (i + 1) (f i s)
theorem zf_id {σ : Type} {f : Nat → σ → σ} : ∀ (c i : Nat) (s : σ), (∀ k, i ≤ k → k < i + c → ∀ s, f k s = s) → zf f c i s = s := by
  intro c
  induction c with
  | zero => intro i s _; rfl
  | succ c ih =>
    intro i s h
    show zf f c (i + 1) (f i s) = s
    rw [h i (Nat.le_refl _) (by omega)]
    exact ih (i + 1) s (fun k h1 h2 => h k (by omega) (by omega))
theorem zf_split {σ : Type} {f : Nat → σ → σ} : ∀ (c d i : Nat) (s : σ), zf f (c + d) i s = zf f d (i + c) (zf f c i s) := by
  intro c
  induction c with
  | zero => intro d i s; rw [Nat.zero_add]; rfl
  | succ c ih =>
    intro d i s
    rw [show c + 1 + d = (c + d) + 1 by omega]
    show zf f (c + d) (i + 1) (f i s) = _
    rw [ih, show i + 1 + c = i + (c + 1) by omega]
    rfl
theorem zf_cut {σ : Type} {f : Nat → σ → σ} {K n : Nat} (hK : K ≤ n) (s : σ) (h : ∀ k, K ≤ k → k < n → ∀ s, f k s = s) : zf f n 0 s = zf f K 0 s := by
  obtain ⟨d, rfl⟩ : ∃ d, n = K + d := ⟨n - K, by omega⟩
  rw [zf_split]
  exact zf_id d _ _ (fun k h1 h2 => h k (by omega) (by omega))
theorem zf_congr {σ : Type} {f f' : Nat → σ → σ} : ∀ (c i : Nat) (s : σ), (∀ k, i ≤ k → k < i + c → ∀ s, f k s = f' k s) → zf f c i s = zf f' c i s := by
  intro c
  induction c with
  | zero => intro i s _; rfl
  | succ c ih =>
    intro i s h
    show zf f c (i + 1) (f i s) = zf f' c (i + 1) (f' i s)
    rw [h i (Nat.le_refl _) (by omega)]
    exact ih (i + 1) _ (fun k h1 h2 => h k (by omega) (by omega))
theorem zf_inv {σ : Type} {f : Nat → σ → σ} {P : σ → Prop} : ∀ (c i : Nat) (s : σ), P s → (∀ k, i ≤ k → k < i + c → ∀ s, P s → P (f k s)) → P (zf f c i s) := by
  intro c
  induction c with
  | zero => intro i s h _; exact h
  | succ c ih =>
    intro i s h hs
    exact ih (i + 1) _ (hs i (Nat.le_refl _) (by omega) s h) (fun k h1 h2 => hs k (by omega) (by omega))
theorem zf_invk {σ : Type} {f : Nat → σ → σ} {P : Nat → σ → Prop} : ∀ (c i : Nat) (s : σ), P i s → (∀ k, i ≤ k → k < i + c → ∀ s, P k s → P (k + 1) (f k s)) → P (i + c) (zf f c i s) := by
  intro c
  induction c with
  | zero => intro i s h _; exact h
  | succ c ih =>
    intro i s h hs
    have := ih (i + 1) _ (hs i (Nat.le_refl _) (by omega) s h) (fun k h1 h2 => hs k (by omega) (by omega))
    rw [show i + (c + 1) = i + 1 + c by omega]
    exact this
abbrev zA : Type := Nat → Nat → Int32
def zcA (M : zM) (j : Nat) : zA := fun k p => if k < 6 then (if p < 12 then M (2 + p) j k else if p < 44 then M 14 j (32 * k + (p - 12)) else 0) else if k = 6 then (if p = 0 then M 1 j 0 else if p = 1 then M 1 j 2 else if p = 2 then M 1 j 1 else if p = 3 then M 1 j 3 else 0) else 0
def zrA (f : Nat → Int32) : zA := fun k p => if k < 6 then (if p < 44 then f (44 * k + p + 4) else 0) else if k = 6 then (if p < 4 then f p else 0) else 0
def zp (A : zA) (k p : Nat) (v : Int32) : zA := fun k' p' => if k' = k ∧ p' = p then v else A k' p'
theorem zp_at {A : zA} {k p : Nat} {v : Int32} : zp A k p v k p = v := by simp [zp]
theorem zp_ne {A : zA} {k p k' p' : Nat} {v : Int32} (h : ¬ (k' = k ∧ p' = p)) : zp A k p v k' p' = A k' p' := by simp [zp, h]
theorem zp_nk {A : zA} {k p k' p' : Nat} {v : Int32} (h : k' ≠ k) : zp A k p v k' p' = A k' p' := by simp [zp, h]
theorem zp_np {A : zA} {k p k' p' : Nat} {v : Int32} (h : p' ≠ p) : zp A k p v k' p' = A k' p' := by simp [zp, h]
theorem zr_p {M : zM} {j k : Nat} (p : Nat) (hk : k < 6) (hp : p < 12) : M (2 + p) j k = zcA M j k p := by simp [zcA, hk, hp]
theorem zr0 {M : zM} {j k : Nat} (hk : k < 6) : M 2 j k = zcA M j k 0 := zr_p 0 hk (by omega)
theorem zr1 {M : zM} {j k : Nat} (hk : k < 6) : M 3 j k = zcA M j k 1 := zr_p 1 hk (by omega)
theorem zr2 {M : zM} {j k : Nat} (hk : k < 6) : M 4 j k = zcA M j k 2 := zr_p 2 hk (by omega)
theorem zr3 {M : zM} {j k : Nat} (hk : k < 6) : M 5 j k = zcA M j k 3 := zr_p 3 hk (by omega)
theorem zr4 {M : zM} {j k : Nat} (hk : k < 6) : M 6 j k = zcA M j k 4 := zr_p 4 hk (by omega)
theorem zr5 {M : zM} {j k : Nat} (hk : k < 6) : M 7 j k = zcA M j k 5 := zr_p 5 hk (by omega)
theorem zr6 {M : zM} {j k : Nat} (hk : k < 6) : M 8 j k = zcA M j k 6 := zr_p 6 hk (by omega)
theorem zr7 {M : zM} {j k : Nat} (hk : k < 6) : M 9 j k = zcA M j k 7 := zr_p 7 hk (by omega)
theorem zr8 {M : zM} {j k : Nat} (hk : k < 6) : M 10 j k = zcA M j k 8 := zr_p 8 hk (by omega)
theorem zr9 {M : zM} {j k : Nat} (hk : k < 6) : M 11 j k = zcA M j k 9 := zr_p 9 hk (by omega)
theorem zr10 {M : zM} {j k : Nat} (hk : k < 6) : M 12 j k = zcA M j k 10 := zr_p 10 hk (by omega)
theorem zr11 {M : zM} {j k : Nat} (hk : k < 6) : M 13 j k = zcA M j k 11 := zr_p 11 hk (by omega)
theorem zrw {M : zM} {j k q : Nat} (hk : k < 6) (hq : q < 32) : M 14 j (32 * k + q) = zcA M j k (12 + q) := by
  simp only [zcA, if_pos hk]
  rw [if_neg (by omega), if_pos (by omega)]
  congr 1; omega
theorem zs0 {M : zM} {j : Nat} : M 1 j 0 = zcA M j 6 0 := rfl
theorem zs1 {M : zM} {j : Nat} : M 1 j 2 = zcA M j 6 1 := rfl
theorem zs2 {M : zM} {j : Nat} : M 1 j 1 = zcA M j 6 2 := rfl
theorem zs3 {M : zM} {j : Nat} : M 1 j 3 = zcA M j 6 3 := rfl
theorem zc_p {M : zM} {j k : Nat} {v : Int32} (p : Nat) (hk : k < 6) (hp : p < 12) : zcA (zw M (2 + p) j k v) j = zp (zcA M j) k p v := by
  funext k' p'
  simp only [zcA, zp]
  by_cases h6 : k' < 6
  · rw [if_pos h6, if_pos h6]
    by_cases h12 : p' < 12
    · rw [if_pos h12, if_pos h12]
      by_cases hq : p' = p
      · subst hq
        rw [zw_at]; unfold upd
        by_cases hk' : k' = k
        · simp [hk']
        · simp [hk']
      · rw [zw_ne (by omega)]; simp [hq]
    · rw [if_neg h12, if_neg h12, zw_ne (show ¬ (14 = 2 + p ∧ j = j) by omega), if_neg (show ¬ (k' = k ∧ p' = p) by omega)]
  · rw [if_neg h6, if_neg h6, if_neg (show ¬ (k' = k ∧ p' = p) by omega)]
    rw [zw_ne (show ¬ (1 = 2 + p ∧ j = j) by omega)]
theorem zc_w {M : zM} {j k q : Nat} {v : Int32} (hk : k < 6) (hq : q < 32) : zcA (zw M 14 j (32 * k + q) v) j = zp (zcA M j) k (12 + q) v := by
  funext k' p'
  simp only [zcA, zp]
  by_cases h6 : k' < 6
  · rw [if_pos h6, if_pos h6]
    by_cases h12 : p' < 12
    · rw [if_pos h12, if_pos h12, zw_ne (show ¬ (2 + p' = 14 ∧ j = j) by omega), if_neg (show ¬ (k' = k ∧ p' = 12 + q) by omega)]
    · rw [if_neg h12, if_neg h12]
      by_cases h44 : p' < 44
      · rw [if_pos h44, if_pos h44, zw_at]; unfold upd
        by_cases h : k' = k ∧ p' = 12 + q
        · rw [if_pos (by omega), if_pos h]
        · rw [if_neg (by omega), if_neg h]
      · rw [if_neg h44, if_neg h44, if_neg (show ¬ (k' = k ∧ p' = 12 + q) by omega)]
  · rw [if_neg h6, if_neg h6, if_neg (show ¬ (k' = k ∧ p' = 12 + q) by omega)]
    rw [zw_ne (show ¬ (1 = 14 ∧ j = j) by omega)]
theorem zc0 {M : zM} {j k : Nat} {v : Int32} (hk : k < 6) : zcA (zw M 2 j k v) j = zp (zcA M j) k 0 v := zc_p 0 hk (by omega)
theorem zc1 {M : zM} {j k : Nat} {v : Int32} (hk : k < 6) : zcA (zw M 3 j k v) j = zp (zcA M j) k 1 v := zc_p 1 hk (by omega)
theorem zc2 {M : zM} {j k : Nat} {v : Int32} (hk : k < 6) : zcA (zw M 4 j k v) j = zp (zcA M j) k 2 v := zc_p 2 hk (by omega)
theorem zc3 {M : zM} {j k : Nat} {v : Int32} (hk : k < 6) : zcA (zw M 5 j k v) j = zp (zcA M j) k 3 v := zc_p 3 hk (by omega)
theorem zc4 {M : zM} {j k : Nat} {v : Int32} (hk : k < 6) : zcA (zw M 6 j k v) j = zp (zcA M j) k 4 v := zc_p 4 hk (by omega)
theorem zc5 {M : zM} {j k : Nat} {v : Int32} (hk : k < 6) : zcA (zw M 7 j k v) j = zp (zcA M j) k 5 v := zc_p 5 hk (by omega)
theorem zc6 {M : zM} {j k : Nat} {v : Int32} (hk : k < 6) : zcA (zw M 8 j k v) j = zp (zcA M j) k 6 v := zc_p 6 hk (by omega)
theorem zc7 {M : zM} {j k : Nat} {v : Int32} (hk : k < 6) : zcA (zw M 9 j k v) j = zp (zcA M j) k 7 v := zc_p 7 hk (by omega)
theorem zc8 {M : zM} {j k : Nat} {v : Int32} (hk : k < 6) : zcA (zw M 10 j k v) j = zp (zcA M j) k 8 v := zc_p 8 hk (by omega)
theorem zc9 {M : zM} {j k : Nat} {v : Int32} (hk : k < 6) : zcA (zw M 11 j k v) j = zp (zcA M j) k 9 v := zc_p 9 hk (by omega)
theorem zc10 {M : zM} {j k : Nat} {v : Int32} (hk : k < 6) : zcA (zw M 12 j k v) j = zp (zcA M j) k 10 v := zc_p 10 hk (by omega)
theorem zc11 {M : zM} {j k : Nat} {v : Int32} (hk : k < 6) : zcA (zw M 13 j k v) j = zp (zcA M j) k 11 v := zc_p 11 hk (by omega)
theorem zc_s {M : zM} {j s : Nat} {v : Int32} (p : Nat) (h : (p = 0 ∧ s = 0) ∨ (p = 1 ∧ s = 2) ∨ (p = 2 ∧ s = 1) ∨ (p = 3 ∧ s = 3)) : zcA (zw M 1 j s v) j = zp (zcA M j) 6 p v := by
  funext k' p'
  simp only [zcA, zp]
  by_cases h6 : k' < 6
  · rw [if_pos h6, if_pos h6, zw_ne (show ¬ (2 + p' = 1 ∧ j = j) by omega), zw_ne (show ¬ (14 = 1 ∧ j = j) by omega), if_neg (show ¬ (k' = 6 ∧ p' = p) by omega)]
  · rw [if_neg h6, if_neg h6]
    by_cases hk : k' = 6
    · rw [if_pos hk, if_pos hk, zw_at]; unfold upd
      rcases h with ⟨rfl, rfl⟩ | ⟨rfl, rfl⟩ | ⟨rfl, rfl⟩ | ⟨rfl, rfl⟩
      all_goals
        by_cases h0 : p' = 0
        · simp [h0, hk]
        · by_cases h1 : p' = 1
          · simp [h1, hk]
          · by_cases h2 : p' = 2
            · simp [h2, hk]
            · by_cases h3 : p' = 3
              · simp [h3, hk]
              · simp [h0, h1, h2, h3]
    · rw [if_neg hk, if_neg (show ¬ (k' = 6 ∧ p' = p) by omega), if_neg hk]
theorem zcs0 {M : zM} {j : Nat} {v : Int32} : zcA (zw M 1 j 0 v) j = zp (zcA M j) 6 0 v := zc_s 0 (by omega)
theorem zcs1 {M : zM} {j : Nat} {v : Int32} : zcA (zw M 1 j 2 v) j = zp (zcA M j) 6 1 v := zc_s 1 (by omega)
theorem zcs2 {M : zM} {j : Nat} {v : Int32} : zcA (zw M 1 j 1 v) j = zp (zcA M j) 6 2 v := zc_s 2 (by omega)
theorem zcs3 {M : zM} {j : Nat} {v : Int32} : zcA (zw M 1 j 3 v) j = zp (zcA M j) 6 3 v := zc_s 3 (by omega)
theorem zcA_eq {M M' : zM} {j j' : Nat} (h : ∀ k, 1 ≤ k → k ≤ 14 → M' k j' = M k j) : zcA M' j' = zcA M j := by
  funext k p
  simp only [zcA]
  rw [h 14 (by omega) (by omega), h 1 (by omega) (by omega)]
  by_cases h12 : p < 12
  · rw [h (2 + p) (by omega) (by omega)]
  · simp [h12]
theorem zcA_skip {M : zM} {k i s j : Nat} {v : Int32} (h : ¬ (1 ≤ k ∧ k ≤ 14 ∧ i = j)) : zcA (zw M k i s v) j = zcA M j := zcA_eq (fun k' h1 h2 => zw_ne (by omega))
theorem zrA_eq {f f' : Nat → Int32} (h : ∀ s, s < 268 → f' s = f s) : zrA f' = zrA f := by
  funext k p
  simp only [zrA]
  by_cases h6 : k < 6
  · by_cases h44 : p < 44
    · rw [if_pos h6, if_pos h6, if_pos h44, if_pos h44, h _ (by omega)]
    · simp [h6, h44]
  · by_cases hk : k = 6
    · by_cases h4 : p < 4
      · simp only [h6, hk, h4]; rw [if_pos trivial, if_pos trivial]; simp [h _ (show p < 268 by omega)]
      · simp [hk, h4]
    · simp [h6, hk]
theorem zrr {f : Nat → Int32} {k p : Nat} (hk : k < 6) (hp : p < 44) : f (44 * k + p + 4) = zrA f k p := by simp [zrA, hk, hp]
theorem zrs {f : Nat → Int32} {p : Nat} (hp : p < 4) : f p = zrA f 6 p := by simp [zrA, hp]
theorem zru {f : Nat → Int32} {k p : Nat} {v : Int32} (hk : k < 6) (hp : p < 44) : zrA (upd f (44 * k + p + 4) v) = zp (zrA f) k p v := by
  funext k' p'
  simp only [zrA, zp, upd]
  by_cases h6 : k' < 6
  · by_cases h44 : p' < 44
    · rw [if_pos h6, if_pos h6, if_pos h44, if_pos h44]
      by_cases h : k' = k ∧ p' = p
      · rw [if_pos (by omega), if_pos h]
      · rw [if_neg (by omega), if_neg h]
    · rw [if_pos h6, if_pos h6, if_neg h44, if_neg h44, if_neg (by omega)]
  · rw [if_neg h6, if_neg h6, if_neg (show ¬ (k' = k ∧ p' = p) by omega)]
    by_cases hk6 : k' = 6
    · by_cases h4 : p' < 4
      · rw [if_pos hk6, if_pos h4, if_neg (by omega), if_pos hk6, if_pos h4]
      · rw [if_pos hk6, if_neg h4, if_pos hk6, if_neg h4]
    · rw [if_neg hk6, if_neg hk6]
theorem zrus {f : Nat → Int32} {p : Nat} {v : Int32} (hp : p < 4) : zrA (upd f p v) = zp (zrA f) 6 p v := by
  funext k' p'
  simp only [zrA, zp, upd]
  by_cases h6 : k' < 6
  · rw [if_pos h6, if_pos h6, if_neg (show ¬ (k' = 6 ∧ p' = p) by omega), if_neg (show ¬ (44 * k' + p' + 4 = p) by omega)]
  · rw [if_neg h6, if_neg h6]
    by_cases hk6 : k' = 6
    · by_cases h4 : p' < 4
      · rw [if_pos hk6, if_pos h4, if_pos hk6, if_pos h4]
        by_cases h : p' = p
        · rw [if_pos h, if_pos ⟨hk6, h⟩]
        · rw [if_neg h, if_neg (by omega)]
      · rw [if_pos hk6, if_neg h4, if_pos hk6, if_neg h4, if_neg (by omega)]
    · rw [if_neg hk6, if_neg hk6, if_neg (by omega)]

def zkite (A : zA) (k : Nat) : Prop :=
  (0 ≤ (A k 0).toInt ∧ (A k 0).toInt ≤ 63) ∧ (0 ≤ (A k 1).toInt ∧ (A k 1).toInt ≤ 63) ∧ (1 ≤ (A k 2).toInt ∧ (A k 2).toInt ≤ 47) ∧ (-3 ≤ (A k 3).toInt ∧ (A k 3).toInt ≤ 3) ∧ (-3 ≤ (A k 4).toInt ∧ (A k 4).toInt ≤ 3) ∧ (0 ≤ (A k 5).toInt ∧ (A k 5).toInt ≤ 5) ∧ (10 ≤ (A k 6).toInt ∧ (A k 6).toInt ≤ 200) ∧ (0 ≤ (A k 8).toInt ∧ (A k 8).toInt ≤ 2) ∧ (0 ≤ (A k 9).toInt ∧ (A k 9).toInt ≤ 63) ∧ (0 ≤ (A k 10).toInt ∧ (A k 10).toInt ≤ 63) ∧ (1 ≤ (A k 11).toInt ∧ (A k 11).toInt ≤ 47) ∧
  (∀ q, q < 32 → 0 ≤ (A k (12 + q)).toInt ∧ (A k (12 + q)).toInt ≤ 1000) ∧ (A k 8 = 0 → ∀ q, q < 32 → (A k (12 + q)).toInt < (A k 6).toInt)
def zKn (A : zA) : Nat := zN (A 6 0)
def zok (A : zA) : Prop := A 6 0 = nI (zKn A) ∧ zKn A ≤ 6 ∧ ∀ k, k < zKn A → zkite A k
def zfly (A : zA) (k : Nat) : Bool := decide (k < zKn A) && decide (A k 8 = 0)
def zhas (A : zA) (v : Int32) : Bool := decide (0 ≤ v.toInt) && decide (v.toInt < (zKn A : Int))
theorem zhas_nI {A : zA} {v : Int32} (h : zhas A v = true) (hA : zKn A ≤ 6) : ∃ k, k < zKn A ∧ k < 6 ∧ v = nI k := by
  simp only [zhas, Bool.and_eq_true, decide_eq_true_eq] at h
  obtain ⟨n, h1, h2, h3⟩ := znat h.1
  exact ⟨n, by omega, by omega, h2⟩
theorem zhas_of {A : zA} {k : Nat} (hk : k < 2 ^ 31) : zhas A (nI k) = decide (k < zKn A) := by
  simp only [zhas, nI_toInt hk]
  simp
theorem Int32_0 : (0 : Int32).toInt = 0 := rfl
theorem zlt_i {x y : Int32} : (x < y) = (x.toInt < y.toInt) := propext Int32.lt_iff_toInt_lt
theorem zle_i {x y : Int32} : (x ≤ y) = (x.toInt ≤ y.toInt) := propext Int32.le_iff_toInt_le
theorem zeq_i {x y : Int32} : (x = y) = (x.toInt = y.toInt) := propext Int32.toInt_inj.symm
theorem e2_has {M : zM} {j : Nat} {v : Int32} (h : zok (zcA M j)) : fX2_has M j v = some (zb (zhas (zcA M j) v), M) := by
  have h0 : M 1 j 0 = nI (zKn (zcA M j)) := h.1
  have hK := h.2.1
  unfold fX2_has zhas zb
  rw [h0]
  generalize zKn (zcA M j) = K at *
  simp only [zlt_i, zle_i, nI_toInt (show K < 2 ^ 31 by omega), Int32_0, show (6 : Int32).toInt = 6 from rfl]
  by_cases c1 : v.toInt < 0
  · simp [c1, show ¬ (0 ≤ v.toInt) by omega]
  · by_cases c2 : (K : Int) ≤ v.toInt
    · simp [c1, c2, show ¬ (v.toInt < (K : Int)) by omega]
    · simp [c1, c2, show ¬ (6 ≤ v.toInt) by omega, show 0 ≤ v.toInt by omega, show v.toInt < (K : Int) by omega]
theorem e2_fly {M : zM} {j k : Nat} (h : zok (zcA M j)) (hk : k < 6) : fX2_isFlying M j (nI k) = some (zb (zfly (zcA M j) k), M) := by
  unfold fX2_isFlying
  rw [e2_has h, zC_some, zhas_of (by omega)]
  by_cases hK : k < zKn (zcA M j)
  · simp only [zfly, hK, decide_true, zb, if_true, zI_eq (zix_nI hk (by omega)), zN_nI (show k < 2 ^ 31 by omega), zr8 hk]
    by_cases hq : zcA M j k 8 = 0 <;> simp [hq]
  · simp [zfly, hK, zb]
theorem e2_flyv {M : zM} {j : Nat} {v : Int32} (h : zok (zcA M j)) : fX2_isFlying M j v = some (zb (zhas (zcA M j) v && decide (zcA M j (zN v) 8 = 0)), M) := by
  cases hv : zhas (zcA M j) v with
  | false => unfold fX2_isFlying; rw [e2_has h, zC_some, hv]; simp [zb]
  | true =>
    obtain ⟨k, h1, h2, rfl⟩ := zhas_nI hv h.2.1
    rw [e2_fly h h2, zN_nI (by omega)]
    simp [zfly, h1]
def zwin (v : Int32) (a b : Int) : Bool := decide (a ≤ v.toInt) && decide (v.toInt ≤ b)
theorem e2_within {M : zM} {v a b : Int32} : fX6_isWithin M v a b = some (zb (zwin v a.toInt b.toInt), M) := by
  unfold fX6_isWithin zb zwin
  simp only [zlt_i]
  by_cases c1 : v.toInt < a.toInt
  · simp [c1, show ¬ a.toInt ≤ v.toInt by omega]
  · by_cases c2 : b.toInt < v.toInt
    · simp [c1, c2, show ¬ v.toInt ≤ b.toInt by omega]
    · simp [c1, c2, show a.toInt ≤ v.toInt by omega, show v.toInt ≤ b.toInt by omega]
def zmv (A : zA) (k : Nat) : zA :=
  let A1 := if zwin (A k 1 + A k 3) 0 63 then zp A k 1 (A k 1 + A k 3) else zp A k 3 (-(A k 3))
  if zwin (A k 2 + A k 4) 1 47 then zp A1 k 2 (A k 2 + A k 4) else zp A1 k 4 (-(A k 4))
theorem e2_move {M : zM} {j k : Nat} (hk : k < 6) : ∃ M', fX2_move M j (nI k) = some ((), M') ∧ zcA M' j = zmv (zcA M j) k ∧ ∀ k' i', ¬ (1 ≤ k' ∧ k' ≤ 14 ∧ i' = j) → M' k' i' = M k' i' := by
  have hx := zix_nI hk (show 6 < 2 ^ 31 by omega)
  have hn := zN_nI (show k < 2 ^ 31 by omega)
  have i0 : (0 : Int32).toInt = 0 := rfl
  have i1 : (1 : Int32).toInt = 1 := rfl
  have i47 : (47 : Int32).toInt = 47 := rfl
  have i63 : (63 : Int32).toInt = 63 := rfl
  unfold fX2_move
  simp only [zI_eq hx, zL_eq, e2_within, zC_some, hn, zb_0, i0, i1, i47, i63, zr1 hk, zr2 hk, zr3 hk, zr4 hk]
  unfold zmv
  cases hb1 : zwin (zcA M j k 1 + zcA M j k 3) 0 63
  · simp only [if_true, zc3 hk, zp_np (show 2 ≠ 3 by decide), zp_np (show 4 ≠ 3 by decide)]
    cases hb2 : zwin (zcA M j k 2 + zcA M j k 4) 1 47
    · simp only [if_true]
      refine ⟨_, rfl, ?_, fun k' i' h => ?_⟩
      · rw [zc4 hk, zc3 hk]; simp
      · rw [zw_ne (by omega), zw_ne (by omega)]
    · simp only [Bool.true_eq_false, if_false]
      refine ⟨_, rfl, ?_, fun k' i' h => ?_⟩
      · rw [zc2 hk, zc3 hk]; simp
      · rw [zw_ne (by omega), zw_ne (by omega)]
  · simp only [Bool.true_eq_false, if_false, zc1 hk, zp_np (show 2 ≠ 1 by decide), zp_np (show 4 ≠ 1 by decide)]
    cases hb2 : zwin (zcA M j k 2 + zcA M j k 4) 1 47
    · simp only [if_true]
      refine ⟨_, rfl, ?_, fun k' i' h => ?_⟩
      · rw [zc4 hk, zc1 hk]; simp
      · rw [zw_ne (by omega), zw_ne (by omega)]
    · simp only [Bool.true_eq_false, if_false]
      refine ⟨_, rfl, ?_, fun k' i' h => ?_⟩
      · rw [zc2 hk, zc1 hk]; simp
      · rw [zw_ne (by omega), zw_ne (by omega)]

