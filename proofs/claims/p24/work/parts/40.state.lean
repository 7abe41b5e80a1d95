abbrev zSg : Type := zA × List zA × (Nat → zA) × (Nat → Int32) × List Int32
def zOK (σ : zSg) : Prop := zok σ.1 ∧ (∀ B, B ∈ σ.2.1 → zok B) ∧ σ.2.1.length ≤ 6 ∧ (∀ i, i < 2 → zok (σ.2.2.1 i)) ∧ (∀ i, i < 2 → σ.2.2.2.1 i = 0 ∨ σ.2.2.2.1 i = 1) ∧ σ.2.2.2.2.length ≤ 60 ∧ ∀ c, c ∈ σ.2.2.2.2 → 33 ≤ c.toInt ∧ c.toInt ≤ 126
def zCR (M : zM) (σ : zSg) : Prop := zcA M 0 = σ.1 ∧ (∃ nx, nx < 6 ∧ M 21 0 1 = nI nx ∧ ∀ n, n < σ.2.1.length → σ.2.1[n]? = some (zcA M (2 + (nx + 5 - n) % 6))) ∧ M 21 0 2 = nI σ.2.1.length ∧ (∀ i, i < 2 → zcA M (8 + i) = σ.2.2.1 i ∧ M 23 i 1 = σ.2.2.2.1 i) ∧ M 24 0 1 = nI σ.2.2.2.2.length ∧ ∀ q c, σ.2.2.2.2[q]? = some c → M 25 0 q = c
def zhi (M M' : zM) : Prop := ∀ k i, 26 ≤ k → M' k i = M k i
def zlo (M M' : zM) : Prop := ∀ k i, k < 26 → M' k i = M k i
theorem zhi.refl {M : zM} : zhi M M := fun _ _ _ => rfl
theorem zhi.trans {M M1 M2 : zM} (h : zhi M M1) (h2 : zhi M1 M2) : zhi M M2 := fun k i a => (h2 k i a).trans (h k i a)
theorem zlo.refl {M : zM} : zlo M M := fun _ _ _ => rfl
theorem zlo.trans {M M1 M2 : zM} (h : zlo M M1) (h2 : zlo M1 M2) : zlo M M2 := fun k i a => (h2 k i a).trans (h k i a)
theorem zlo.CR {M M' : zM} {σ : zSg} (h : zlo M M') (hr : zCR M σ) : zCR M' σ := by
  have e : ∀ j, zcA M' j = zcA M j := fun j => zcA_eq (fun k h1 h2 => h k j (by omega))
  obtain ⟨h1, ⟨nx, n1, n2, n3⟩, h3, h4, h5, h6⟩ := hr
  refine ⟨by rw [e]; exact h1, ⟨nx, n1, by rw [h 21 0 (by omega)]; exact n2, fun n hn => by rw [e]; exact n3 n hn⟩, by rw [h 21 0 (by omega)]; exact h3, ?_, by rw [h 24 0 (by omega)]; exact h5, ?_⟩
  · intro i hi; rw [e, h 23 i (by omega)]; exact h4 i hi
  · intro q c hq; rw [h 25 0 (by omega)]; exact h6 q c hq
theorem zcA_eq2 {M M' : zM} {j j' : Nat} (h : ∀ k, 2 ≤ k → k ≤ 14 → M' k j' = M k j) (hs : ∀ s, s < 4 → M' 1 j' s = M 1 j s) : zcA M' j' = zcA M j := by
  funext k p
  simp only [zcA]
  rw [h 14 (by omega) (by omega), hs 0 (by omega), hs 1 (by omega), hs 2 (by omega), hs 3 (by omega)]
  by_cases h12 : p < 12
  · rw [h (2 + p) (by omega) (by omega)]
  · simp [h12]
theorem e2_copy {M : zM} {j j1 : Nat} (hne : j1 ≠ j) : ∃ M', fX2_copyFrom M j j1 = some ((), M') ∧ zcA M' j = zcA M j1 ∧ zfk j M M' := by
  unfold fX2_copyFrom fX2_copyRow
  simp only [zL_eq, if_neg hne, zC_some]
  refine ⟨_, rfl, zcA_eq2 (fun k h1 h2 => ?_) (fun s hs => ?_), fun k i h => ?_⟩
  · obtain rfl | rfl | rfl | rfl | rfl | rfl | rfl | rfl | rfl | rfl | rfl | rfl | rfl : k = 2 ∨ k = 3 ∨ k = 4 ∨ k = 5 ∨ k = 6 ∨ k = 7 ∨ k = 8 ∨ k = 9 ∨ k = 10 ∨ k = 11 ∨ k = 12 ∨ k = 13 ∨ k = 14 := by omega
    all_goals (funext s; simp [zcp, zw, hne])
  · obtain rfl | rfl | rfl | rfl : s = 0 ∨ s = 1 ∨ s = 2 ∨ s = 3 := by omega
    all_goals (simp [zcp, zw, upd, hne])
  · repeat rw [zcp_ne (by omega)]
    repeat rw [zw_ne (by omega)]
theorem zfk.hi {j : Nat} {M M' : zM} (h : zfk j M M') : zhi M M' := fun k i hk => h k i (by omega)
theorem zfk.cA {j j' : Nat} {M M' : zM} (h : zfk j M M') (hne : j' ≠ j) : zcA M' j' = zcA M j' := zcA_eq (fun k h1 h2 => h k j' (by omega))
def zrec (σ : zSg) : zSg := (σ.1, (σ.1 :: σ.2.1).take 6, σ.2.2)
theorem zrec_ok {σ : zSg} (h : zOK σ) : zOK (zrec σ) := by
  obtain ⟨h1, h2, h3, h4⟩ := h
  refine ⟨h1, fun B hB => ?_, by show ((σ.1 :: σ.2.1).take 6).length ≤ 6; simp; omega, h4⟩
  have hB' : B ∈ σ.1 :: σ.2.1 := List.mem_of_mem_take hB
  rcases List.mem_cons.mp hB' with rfl | hB'
  · exact h1
  · exact h2 B hB'
theorem e0_state {M : zM} {n : Nat} (hn : n < 6) : fX0_stateAt M (nI n) = some (2 + n, M) := by
  unfold fX0_stateAt
  rw [if_neg (nI_pos (by omega)), if_neg (show ¬ (6 : Int32) ≤ nI n from nI_ge (b := 6) hn (by omega)), zI_eq (zix_nI hn (by omega)), zN_nI (by omega)]
theorem e0_rec {M : zM} {σ : zSg} (hok : zOK σ) (h : zCR M σ) : ∃ M', fX0_record M 0 = some ((), M') ∧ zCR M' (zrec σ) ∧ zhi M M' := by
  obtain ⟨h1, ⟨nx, n1, n2, n3⟩, h3, h4, h5, h6⟩ := h
  have hl := hok.2.2.1
  unfold fX0_record
  rw [n2, e0_state n1, zC_some]
  obtain ⟨M1, e1, c1, f1⟩ := e2_copy (M := M) (j := 2 + nx) (j1 := 0) (by omega)
  rw [e1, zC_some]
  have a21 : M1 21 0 = M 21 0 := f1 21 0 (by omega)
  have key : ∀ (M' : zM) (nx' : Nat), nx' = (nx + 1) % 6 → M' 21 0 1 = nI nx' → M' 21 0 2 = nI ((σ.1 :: σ.2.1).take 6).length → (∀ k i, k ≠ 21 → M' k i = M1 k i) → zCR M' (zrec σ) := by
    intro M' nx' hnx g1 g2 g3
    have e : ∀ j, zcA M' j = zcA M1 j := fun j => zcA_eq (fun k a b => g3 k j (by omega))
    refine ⟨by rw [e, f1.cA (by omega)]; exact h1, ⟨nx', by omega, g1, fun n hn => ?_⟩, g2, fun i hi => ⟨?_, ?_⟩, ?_, fun q c hq => ?_⟩
    · have hn' : n < ((σ.1 :: σ.2.1).take 6).length := hn
      show ((σ.1 :: σ.2.1).take 6)[n]? = _
      have hn6 : n < 6 := by rw [List.length_take] at hn'; omega
      rw [List.getElem?_take_of_lt hn6]
      cases n with
      | zero =>
        rw [e, show 2 + (nx' + 5 - 0) % 6 = 2 + nx by omega, c1, h1]; rfl
      | succ n =>
        have hn2 : n < σ.2.1.length := by rw [List.length_take, List.length_cons] at hn'; omega
        rw [e, f1.cA (by omega)]
        have := n3 n hn2
        rw [show (nx' + 5 - (n + 1)) % 6 = (nx + 5 - n) % 6 by omega]
        exact this
    · rw [e, f1.cA (by omega)]; exact (h4 i hi).1
    · rw [g3 23 i (by omega), f1 23 i (by omega)]; exact (h4 i hi).2
    · rw [g3 24 0 (by omega), f1 24 0 (by omega)]; exact h5
    · rw [g3 25 0 (by omega), f1 25 0 (by omega)]; exact h6 q c hq
  have hmin : zmin (nI σ.2.1.length + 1) 6 = nI ((σ.1 :: σ.2.1).take 6).length := by
    rw [nI_1, List.length_take, List.length_cons]
    unfold zmin
    rw [show (6 : Int32) = nI 6 from rfl]
    by_cases hc : σ.2.1.length = 6
    · rw [hc]; rfl
    · have : ¬ nI 6 < nI (σ.2.1.length + 1) := nI_nlt (by omega) (by omega)
      rw [if_neg this]; congr 1; omega
  have fh : zhi M M1 := f1.hi
  rw [a21, n2, nI_1]
  by_cases hc : nx = 5
  · subst hc
    rw [if_pos (by decide), zL_eq, zL_eq]
    refine ⟨_, rfl, key _ 0 (by omega) ?_ ?_ (fun k i hk => ?_), fh.trans (fun k i hk => ?_)⟩
    · rw [zw_at]; unfold upd; rw [if_neg (by decide), zw_at]; unfold upd; rw [if_pos rfl]; rfl
    · rw [zw_at]; unfold upd; rw [if_pos rfl, zw_at]; unfold upd; rw [if_neg (by decide), a21, h3]; exact hmin
    · rw [zw_ne (by omega), zw_ne (by omega)]
    · rw [zw_ne (by omega), zw_ne (by omega)]
  · have : ¬ (6 : Int32) ≤ nI (nx + 1) := nI_ge (a := nx + 1) (b := 6) (by omega) (by omega)
    rw [if_neg this, zL_eq, zL_eq]
    refine ⟨_, rfl, key _ (nx + 1) (by omega) ?_ ?_ (fun k i hk => ?_), fh.trans (fun k i hk => ?_)⟩
    · rw [zw_at]; unfold upd; rw [if_neg (by decide), zw_at]; unfold upd; rw [if_pos rfl]
    · rw [zw_at]; unfold upd; rw [if_pos rfl, zw_at]; unfold upd; rw [if_neg (by decide), a21, h3]; exact hmin
    · rw [zw_ne (by omega), zw_ne (by omega)]
    · rw [zw_ne (by omega), zw_ne (by omega)]

theorem zrA_of {f g : Nat → Int32} {A : zA} (h : zrA f = A) (e : ∀ s, s < 268 → g s = f s) : zrA g = A := (zrA_eq e).trans h
def zgs (M M' : zM) : Prop := ∀ k i, ¬ (1 ≤ k ∧ k ≤ 14 ∧ i < 2) → ¬ (15 ≤ k ∧ k ≤ 20) → M' k i = M k i
theorem zgs.refl {M : zM} : zgs M M := fun _ _ _ _ => rfl
theorem zgs.trans {M M1 M2 : zM} (h : zgs M M1) (h2 : zgs M1 M2) : zgs M M2 := fun k i a b => (h2 k i a b).trans (h k i a b)
theorem zfk.gs {j : Nat} {M M' : zM} (hj : j < 2) (h : zfk j M M') : zgs M M' := fun k i a b => h k i (by omega)
theorem zfr.gs {j w : Nat} {M M' : zM} (hj : j < 2) (h : zfr j w M M') : zgs M M' := fun k i a b => h k i (by omega) (by omega) (by omega)
theorem zfw.gs {w : Nat} {M M' : zM} (h : zfw w M M') : zgs M M' := fun k i a b => h k i (by omega)
theorem zgs.hi {M M' : zM} (h : zgs M M') : zhi M M' := fun k i hk => h k i (by omega) (by omega)
theorem zgs.CR {M M' : zM} {σ : zSg} {A : zA} (h : zCR M σ) (hf : zgs M M') (hA : zcA M' 0 = A) : zCR M' (A, σ.2) := by
  have e : ∀ j, 2 ≤ j → zcA M' j = zcA M j := fun j hj => zcA_eq (fun k h1 h2 => hf k j (by omega) (by omega))
  obtain ⟨h1, ⟨nx, n1, n2, n3⟩, h3, h4, h5, h6⟩ := h
  refine ⟨hA, ⟨nx, n1, by rw [hf 21 0 (by omega) (by omega)]; exact n2, fun n hn => by rw [e _ (by omega)]; exact n3 n hn⟩, by rw [hf 21 0 (by omega) (by omega)]; exact h3, ?_, by rw [hf 24 0 (by omega) (by omega)]; exact h5, ?_⟩
  · intro i hi; rw [e _ (by omega), hf 23 i (by omega) (by omega)]; exact h4 i hi
  · intro q c hq; rw [hf 25 0 (by omega) (by omega)]; exact h6 q c hq
theorem zOK.of {A : zA} {σ : zSg} (h : zOK σ) (hA : zok A) : zOK (A, σ.2) := ⟨hA, h.2⟩
theorem nI_dec {a : Nat} (h : a + 1 < 2 ^ 31) : nI (a + 1) - 1 = nI a :=
  Int32.toInt_inj.mp (by rw [zt_sub (nI_toInt h) (show (1 : Int32).toInt = 1 from rfl) (by omega) (by omega), nI_toInt (by omega)]; omega)
theorem zwin_iff {v : Int32} {a b : Int} : zwin v a b = true ↔ a ≤ v.toInt ∧ v.toInt ≤ b := by simp [zwin]
theorem zwin_n {v : Int32} {a b : Int} (h : zwin v a b = true) (ha : 0 ≤ a) : ∃ n : Nat, v = nI n ∧ n < 2 ^ 31 ∧ a ≤ n ∧ (n : Int) ≤ b := by
  rw [zwin_iff] at h
  obtain ⟨n, h1, h2, h3⟩ := znat (x := v) (by omega)
  exact ⟨n, h2, h1, by omega, by omega⟩
theorem c60 {M : zM} {σ : zSg} (h : zCR M σ) : M 1 0 0 = σ.1 6 0 := congrFun (congrFun h.1 6) 0
theorem r60 {N : zM} {A : zA} (h : zrA (N 27 0) = A) : N 27 0 (zN 0) = A 6 0 := by
  rw [← h, show zN 0 = 0 from rfl]; exact zrs (f := N 27 0) (p := 0) (by omega)
theorem zOK.back {σ : zSg} {B : zA} {L : List zA} (h : zOK σ) (hL : σ.2.1 = B :: L) : zOK (B, L, σ.2.2) := by
  obtain ⟨h1, h2, h3, h4⟩ := h
  rw [hL] at h2 h3
  rw [List.length_cons] at h3
  exact ⟨h2 B List.mem_cons_self, fun C hC => h2 C (List.mem_cons_of_mem _ hC), by show L.length ≤ 6; omega, h4⟩
