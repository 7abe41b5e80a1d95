/-! ===== calls: fault ===== -/
def zxc (L : List Int32) (q : Nat) : Int32 := (L[q]?).getD (-1)
theorem zxc_out {L : List Int32} {q : Nat} (h : L.length ≤ q) : zxc L q = -1 := by
  unfold zxc; rw [List.getElem?_eq_none h]; rfl
theorem zxc_in {L : List Int32} {q : Nat} (h : q < L.length) : L[q]? = some (zxc L q) := by
  unfold zxc; rw [List.getElem?_eq_getElem h]; rfl
theorem zxc_lt {L : List Int32} {q : Nat} (h : ¬ zxc L q = -1) : q < L.length := by
  rcases Nat.lt_or_ge q L.length with a | a
  · exact a
  · exact absurd (zxc_out a) h
def zxp (s : Nat) (x : Int32) : Option Nat :=
  if s = 0 then (if zwin x 48 53 = true then some 1 else none)
  else if s = 1 then (if x = 58 then some 2 else none)
  else if s = 2 then (if x = 48 then some 4 else if x = 43 then some 3 else if x = 45 then some 3 else none)
  else if s = 3 then (if zwin x 49 51 = true then some 4 else none)
  else if s = 4 then (if x = 48 then some 6 else if x = 43 then some 5 else if x = 45 then some 5 else none)
  else if s = 5 then (if zwin x 49 51 = true then some 6 else none)
  else (if x = 59 then some 0 else none)
theorem zxp_m1 (s : Nat) : zxp s (-1) = none := by
  unfold zxp
  repeat' split
  all_goals first | rfl | (rename_i h; exact absurd h (by decide))
theorem zxp_6 {s s' : Nat} {x : Int32} (h : zxp s x = some s') : s' ≤ 6 := by
  unfold zxp at h
  repeat' split at h
  all_goals first | cases h; omega | cases h
/-- the reading, from place q in state s -/
def zxr (L : List Int32) : Nat → Nat → Nat → Int32
  | 0, _, _ => 0
  | c + 1, q, s => match zxp s (zxc L q) with
    | none => if s = 6 ∧ q = L.length then -6 else nI q
    | some s' => zxr L c (q + 1) s'
def zxR (L : List Int32) (q s : Nat) : Int32 := zxr L (L.length + 1 - q) q s
theorem zxR_s {L : List Int32} {q s s' : Nat} (h : zxp s (zxc L q) = some s') : q < L.length ∧ zxR L q s = zxR L (q + 1) s' := by
  have hq : q < L.length := zxc_lt fun e => by rw [e, zxp_m1] at h; cases h
  refine ⟨hq, ?_⟩
  unfold zxR
  obtain ⟨c, hc⟩ : ∃ c, L.length + 1 - q = c + 1 := ⟨L.length - q, by omega⟩
  rw [hc, show L.length + 1 - (q + 1) = c by omega]
  show (match zxp s (zxc L q) with
    | none => if s = 6 ∧ q = L.length then -6 else nI q
    | some s' => zxr L c (q + 1) s') = _
  rw [h]
theorem zxR_n {L : List Int32} {q s : Nat} (hq : q ≤ L.length) (h : zxp s (zxc L q) = none) : zxR L q s = if s = 6 ∧ q = L.length then -6 else nI q := by
  unfold zxR
  obtain ⟨c, hc⟩ : ∃ c, L.length + 1 - q = c + 1 := ⟨L.length - q, by omega⟩
  rw [hc]
  show (match zxp s (zxc L q) with
    | none => if s = 6 ∧ q = L.length then -6 else nI q
    | some s' => zxr L c (q + 1) s') = _
  rw [h]
theorem zxR_e {L : List Int32} {s : Nat} : zxR L L.length s = if s = 6 then -6 else nI L.length := by
  rw [zxR_n (Nat.le_refl _) (by rw [zxc_out (Nat.le_refl _)]; exact zxp_m1 s)]
  by_cases h : s = 6
  · rw [if_pos ⟨h, rfl⟩, if_pos h]
  · rw [if_neg (fun q => h q.1), if_neg h]
/-! the class -/
def zPk (M : zM) (L : List Int32) : Prop := M 24 0 1 = nI L.length ∧ (∀ q c, L[q]? = some c → M 25 0 q = c) ∧ L.length ≤ 60
theorem e1_sign {M : zM} {L : List Int32} {q : Nat} (h : zPk M L) (hq : q < L.length) : fX1_signAt M (nI q) = some (zxc L q, M) := by
  obtain ⟨h1, h2, h3⟩ := h
  unfold fX1_signAt
  rw [h1, if_neg (nI_pos (by omega)), if_neg (by rw [zle (by omega) (by omega)]; omega), if_neg (show ¬ (60 : Int32) ≤ nI q from nI_ge (b := 60) (by omega) (by omega)), zI_eq (zix_nI (show q < 60 by omega) (by omega)), zN_nI (by omega), h2 q _ (zxc_in hq)]
def zxn (o : Option Nat) : Int32 := match o with
  | none => -6
  | some s => nI s
theorem e1_after {M : zM} {s : Nat} {x : Int32} (hs : s ≤ 6) : fX1_expectedAfter M (nI s) x = some (zxn (zxp s x), M) := by
  have i48 : (48 : Int32).toInt = 48 := rfl
  have i53 : (53 : Int32).toInt = 53 := rfl
  have i49 : (49 : Int32).toInt = 49 := rfl
  have i51 : (51 : Int32).toInt = 51 := rfl
  have n1 : nI 1 = 1 := rfl
  have n2 : nI 2 = 2 := rfl
  have n3 : nI 3 = 3 := rfl
  have n4 : nI 4 = 4 := rfl
  have n5 : nI 5 = 5 := rfl
  have n6 : nI 6 = 6 := rfl
  have n0 : nI 0 = 0 := rfl
  obtain rfl | rfl | rfl | rfl | rfl | rfl | rfl : s = 0 ∨ s = 1 ∨ s = 2 ∨ s = 3 ∨ s = 4 ∨ s = 5 ∨ s = 6 := by omega
  · unfold fX1_expectedAfter
    rw [if_pos n0, e2_within, i48, i53, zC_some]
    rw [show zxp 0 x = if zwin x 48 53 = true then some 1 else none from rfl]
    cases zwin x 48 53 <;> rfl
  · unfold fX1_expectedAfter
    rw [n1, if_neg (by decide), if_pos rfl]
    rw [show zxp 1 x = if x = 58 then some 2 else none from rfl]
    by_cases h1 : x = 58
    · rw [if_pos h1, if_pos h1]; rfl
    · rw [if_neg h1, if_neg h1]; rfl
  · unfold fX1_expectedAfter fX1_afterStartOfStep
    rw [n2, if_neg (by decide), if_neg (by decide), if_pos rfl]
    rw [show zxp 2 x = if x = 48 then some 4 else if x = 43 then some 3 else if x = 45 then some 3 else none from rfl]
    by_cases h1 : x = 48
    · rw [if_pos h1, if_pos h1]; rfl
    · rw [if_neg h1, if_neg h1]
      by_cases h2 : x = 43
      · rw [if_pos h2, if_pos h2]; rfl
      · rw [if_neg h2, if_neg h2]
        by_cases h3 : x = 45
        · rw [if_pos h3, if_pos h3]; rfl
        · rw [if_neg h3, if_neg h3]; rfl
  · unfold fX1_expectedAfter
    rw [n3, if_neg (by decide), if_neg (by decide), if_neg (by decide), if_pos rfl, e2_within, i49, i51, zC_some]
    rw [show zxp 3 x = if zwin x 49 51 = true then some 4 else none from rfl]
    cases zwin x 49 51 <;> rfl
  · unfold fX1_expectedAfter fX1_afterStartOfStep
    rw [n4, if_neg (by decide), if_neg (by decide), if_neg (by decide), if_neg (by decide), if_pos rfl]
    rw [show zxp 4 x = if x = 48 then some 6 else if x = 43 then some 5 else if x = 45 then some 5 else none from rfl]
    by_cases h1 : x = 48
    · rw [if_pos h1, if_pos h1]; rfl
    · rw [if_neg h1, if_neg h1]
      by_cases h2 : x = 43
      · rw [if_pos h2, if_pos h2]; rfl
      · rw [if_neg h2, if_neg h2]
        by_cases h3 : x = 45
        · rw [if_pos h3, if_pos h3]; rfl
        · rw [if_neg h3, if_neg h3]; rfl
  · unfold fX1_expectedAfter
    rw [n5, if_neg (by decide), if_neg (by decide), if_neg (by decide), if_neg (by decide), if_neg (by decide), if_pos rfl, e2_within, i49, i51, zC_some]
    rw [show zxp 5 x = if zwin x 49 51 = true then some 6 else none from rfl]
    cases zwin x 49 51 <;> rfl
  · unfold fX1_expectedAfter
    rw [n6, if_neg (by decide), if_neg (by decide), if_neg (by decide), if_neg (by decide), if_neg (by decide), if_neg (by decide)]
    rw [show zxp 6 x = if x = 59 then some 0 else none from rfl]
    by_cases h1 : x = 59
    · rw [if_pos h1, if_pos h1]; rfl
    · rw [if_neg h1, if_neg h1]; rfl
theorem l1_fault {L : List Int32} {M : zM} (h : zPk M L) : ∀ (c q n s : Nat), q + c = L.length → c < n → s ≤ 6 →
    fX1_firstFault_L4 (fun M26 v27 v28 => if v27 = 6 then some ((-6), M26) else some (M26 24 0 1, M26)) n M (nI s) (nI q) = some (zxR L q s, M) := by
  have h1 := h.1
  have h3 := h.2.2
  intro c
  induction c with
  | zero =>
    intro q n s hq hn hs
    obtain ⟨n, rfl⟩ : ∃ q, n = q + 1 := ⟨n - 1, by omega⟩
    obtain rfl : q = L.length := by omega
    unfold fX1_firstFault_L4
    rw [h1, if_pos (Int32.le_refl _), zxR_e]
    by_cases h6 : s = 6
    · rw [if_pos h6, h6, if_pos (show nI 6 = (6 : Int32) from rfl)]
    · rw [if_neg h6, if_neg (by rw [show (6 : Int32) = nI 6 from rfl, zeq (by omega) (by omega)]; exact h6)]
  | succ c ih =>
    intro q n s hq hn hs
    obtain ⟨n, rfl⟩ : ∃ q, n = q + 1 := ⟨n - 1, by omega⟩
    unfold fX1_firstFault_L4
    rw [h1, if_neg (by rw [zle (by omega) (by omega)]; omega), e1_sign h (show q < L.length by omega), zC_some, e1_after hs, zC_some, zL_eq, nI_1]
    cases hx : zxp s (zxc L q) with
    | none =>
      rw [zxR_n (by omega) hx, if_neg (show ¬ (s = 6 ∧ q = L.length) by omega)]
      rw [if_pos (show zxn none = -6 from rfl)]
    | some s' =>
      have h6 := zxp_6 hx
      rw [(zxR_s hx).2]
      have e : zxn (some s') = nI s' := rfl
      rw [e, if_neg (n6_big (by omega))]
      exact ih (q + 1) n s' (by omega) (by omega) h6
theorem e1_fault {L : List Int32} {M : zM} (h : zPk M L) : fX1_firstFault M = some (zxR L 0 0, M) :=
  l1_fault h L.length 0 2000 0 (by omega) (by have := h.2.2; omega) (by omega)
/-! the reference -/
def zPn (N : zM) (L : List Int32) : Prop := N 26 0 7 = nI L.length ∧ (∀ q c, L[q]? = some c → N 32 0 q = c) ∧ L.length ≤ 60
def zfa4 (N N' : zM) : Prop := (∀ k i, ¬ (k = 26 ∧ i = 0) → N' k i = N k i) ∧ ∀ s, ¬ (14 ≤ s ∧ s ≤ 17) → N' 26 0 s = N 26 0 s
def zfa1 (N N' : zM) : Prop := (∀ k i, ¬ (k = 26 ∧ i = 0) → N' k i = N k i) ∧ ∀ s, s ≠ 14 → N' 26 0 s = N 26 0 s
theorem zfa4.refl {M : zM} : zfa4 M M := ⟨fun _ _ _ => rfl, fun _ _ => rfl⟩
theorem zfa4.trans {M M1 M2 : zM} (h : zfa4 M M1) (h2 : zfa4 M1 M2) : zfa4 M M2 := ⟨fun k i a => (h2.1 k i a).trans (h.1 k i a), fun s hs => (h2.2 s hs).trans (h.2 s hs)⟩
theorem zfa4.w {M : zM} {s : Nat} {v : Int32} (hs : 14 ≤ s ∧ s ≤ 17) : zfa4 M (zw M 26 0 s v) := ⟨fun k i a => zw_ne a, fun s' h => by rw [zw_at]; unfold upd; rw [if_neg (by omega)]⟩
theorem zfa1.refl {M : zM} : zfa1 M M := ⟨fun _ _ _ => rfl, fun _ _ => rfl⟩
theorem zfa1.trans {M M1 M2 : zM} (h : zfa1 M M1) (h2 : zfa1 M1 M2) : zfa1 M M2 := ⟨fun k i a => (h2.1 k i a).trans (h.1 k i a), fun s hs => (h2.2 s hs).trans (h.2 s hs)⟩
theorem zfa1.w {M : zM} {v : Int32} : zfa1 M (zw M 26 0 14 v) := ⟨fun k i a => zw_ne a, fun s' h => by rw [zw_at]; unfold upd; rw [if_neg (by omega)]⟩
theorem zfa1.f4 {M M' : zM} (h : zfa1 M M') : zfa4 M M' := ⟨h.1, fun s hs => h.2 s (by omega)⟩
theorem zfa4.P {M M' : zM} {L : List Int32} (h : zfa4 M M') (hp : zPn M L) : zPn M' L := ⟨by rw [h.2 7 (by omega)]; exact hp.1, by rw [h.1 32 0 (by omega)]; exact hp.2.1, hp.2.2⟩
theorem zfa1.P {M M' : zM} {L : List Int32} (h : zfa1 M M') (hp : zPn M L) : zPn M' L := h.f4.P hp
theorem zfa4.gn {M M' : zM} (h : zfa4 M M') : zgn M M' := ⟨fun k i a _ _ _ => h.1 k i (by omega), h.2 3 (by omega), h.2 7 (by omega)⟩
theorem e7_char {N : zM} {L : List Int32} {q : Nat} (h : zPn N L) (hq : q < 2 ^ 31) : fX7_character N (nI q) = some (zxc L q, N) := by
  obtain ⟨h1, h2, h3⟩ := h
  unfold fX7_character
  rw [h1]
  by_cases hc : L.length ≤ q
  · rw [if_pos (by rw [zle (by omega) (by omega)]; exact hc), zxc_out hc]
  · rw [if_neg (by rw [zle (by omega) (by omega)]; exact hc), zI_eq (zix_nI (show q < 60 by omega) (by omega)), zN_nI hq, h2 q _ (zxc_in (by omega))]
theorem e7_next {N : zM} {L : List Int32} {q : Nat} {c : Int32} (h : zPn N L) (hq : q < 1000) (ha : N 26 0 14 = nI q) : ∃ N', fX7_isNext N c = some (zb (decide (zxc L q = c)), N') ∧ N' 26 0 14 = nI (if zxc L q = c then q + 1 else q) ∧ zfa1 N N' := by
  unfold fX7_isNext
  rw [ha, e7_char h (by omega), zC_some, zL_eq, zL_eq, ha]
  by_cases hc : zxc L q = c
  · rw [if_pos hc, if_pos hc]
    refine ⟨_, by rw [decide_eq_true hc]; rfl, ?_, zfa1.w⟩
    rw [zw_at]; unfold upd; rw [if_pos rfl, nI_1]
  · rw [if_neg hc, if_neg hc]
    refine ⟨_, by rw [decide_eq_false hc]; rfl, ?_, zfa1.w⟩
    rw [zw_at]; unfold upd; rw [if_pos rfl, Int32.add_zero]
theorem e7_digit {N : zM} {L : List Int32} {q : Nat} {a b : Int32} (h : zPn N L) (hq : q < 1000) (ha : N 26 0 14 = nI q) : ∃ N', fX7_takeDigit N a b = some (if zwin (zxc L q - 48) a.toInt b.toInt = true then zxc L q - 48 else -1, N') ∧ N' 26 0 14 = nI (if zwin (zxc L q - 48) a.toInt b.toInt = true then q + 1 else q) ∧ zfa1 N N' := by
  unfold fX7_takeDigit
  rw [ha, e7_char h (by omega), zC_some, zL_eq, e7_within, zC_some, zL_eq, ha]
  cases zwin (zxc L q - 48) a.toInt b.toInt
  · exact ⟨N, rfl, ha, zfa1.refl⟩
  · refine ⟨_, rfl, ?_, zfa1.w⟩
    rw [if_pos rfl, zw_at]; unfold upd; rw [if_pos rfl, nI_1]
def zxs (L : List Int32) (q : Nat) : Nat × Int32 :=
  if zxc L q = 48 then (q + 1, 0)
  else if zxc L q = 43 then (if zwin (zxc L (q + 1) - 48) 1 3 = true then (q + 2, zxc L (q + 1) - 48) else (q + 1, -6))
  else if zxc L q = 45 then (if zwin (zxc L (q + 1) - 48) 1 3 = true then (q + 2, -(zxc L (q + 1) - 48)) else (q + 1, -6))
  else (q, -6)
theorem i_1m (x : Int32) : 1 * x = x := Int32.one_mul x
theorem i_m1 (x : Int32) : -1 * x = -x := by rw [Int32.neg_mul, Int32.one_mul]
theorem zwin_0 {x : Int32} {a b : Int} (h : zwin x a b = true) (ha : 0 ≤ a) : (0 : Int32) ≤ x := by
  rw [zwin_iff] at h
  rw [zle_i, Int32_0]; omega
theorem e7_tstep {N : zM} {L : List Int32} {q : Nat} (h : zPn N L) (hq : q < 990) (ha : N 26 0 14 = nI q) : ∃ N', fX7_takeStep N = some ((zxs L q).2, N') ∧ N' 26 0 14 = nI (zxs L q).1 ∧ zfa1 N N' := by
  have i1 : (1 : Int32).toInt = 1 := rfl
  have i3 : (3 : Int32).toInt = 3 := rfl
  unfold fX7_takeStep
  obtain ⟨N1, e1, a1, f1⟩ := e7_next (c := 48) h (by omega) ha
  rw [e1, zC_some]
  unfold zxs
  by_cases c1 : zxc L q = 48
  · rw [if_pos c1] at a1
    rw [if_pos c1, decide_eq_true c1, if_neg (show ¬ zb true = 0 by decide)]
    exact ⟨N1, rfl, a1, f1⟩
  rw [if_neg c1] at a1
  rw [if_neg c1, decide_eq_false c1, if_pos (show zb false = 0 from rfl)]
  obtain ⟨N2, e2, a2, f2⟩ := e7_next (c := 43) (f1.P h) (by omega) a1
  rw [e2, zC_some]
  by_cases c2 : zxc L q = 43
  · rw [if_pos c2] at a2
    rw [if_pos c2, decide_eq_true c2, if_neg (show ¬ zb true = 0 by decide)]
    obtain ⟨N3, e3, a3, f3⟩ := e7_digit (a := 1) (b := 3) (f2.P (f1.P h)) (show q + 1 < 1000 by omega) a2
    rw [i1, i3] at e3 a3
    rw [e3, zC_some]
    cases hd : zwin (zxc L (q + 1) - 48) 1 3
    · rw [hd] at a3
      rw [if_neg (c := false = true) (by decide), if_neg (show ¬ (0 : Int32) ≤ -1 by decide), if_neg (by decide)]
      exact ⟨N3, rfl, a3, (f1.trans f2).trans f3⟩
    · rw [hd] at a3
      rw [if_pos (c := true = true) rfl, if_pos (zwin_0 hd (by omega)), if_pos rfl, i_1m]
      exact ⟨N3, rfl, a3, (f1.trans f2).trans f3⟩
  rw [if_neg c2] at a2
  rw [if_neg c2, decide_eq_false c2, if_pos (show zb false = 0 from rfl)]
  obtain ⟨N3, e3, a3, f3⟩ := e7_next (c := 45) (f2.P (f1.P h)) (by omega) a2
  rw [e3, zC_some]
  by_cases c3 : zxc L q = 45
  · rw [if_pos c3] at a3
    rw [if_pos c3, decide_eq_true c3, if_neg (show ¬ zb true = 0 by decide)]
    obtain ⟨N4, e4, a4, f4⟩ := e7_digit (a := 1) (b := 3) (f3.P (f2.P (f1.P h))) (show q + 1 < 1000 by omega) a3
    rw [i1, i3] at e4 a4
    rw [e4, zC_some]
    cases hd : zwin (zxc L (q + 1) - 48) 1 3
    · rw [hd] at a4
      rw [if_neg (c := false = true) (by decide), if_neg (show ¬ (0 : Int32) ≤ -1 by decide), if_neg (by decide)]
      exact ⟨N4, rfl, a4, ((f1.trans f2).trans f3).trans f4⟩
    · rw [hd] at a4
      rw [if_pos (c := true = true) rfl, if_pos (zwin_0 hd (by omega)), if_pos rfl, i_m1]
      exact ⟨N4, rfl, a4, ((f1.trans f2).trans f3).trans f4⟩
  rw [if_neg c3] at a3
  rw [if_neg c3, decide_eq_false c3, if_pos (show zb false = 0 from rfl)]
  exact ⟨N3, rfl, a3, (f1.trans f2).trans f3⟩
theorem zxs_le {L : List Int32} {q : Nat} : q ≤ (zxs L q).1 ∧ (zxs L q).1 ≤ q + 2 := by
  unfold zxs
  repeat' split
  all_goals exact ⟨by show q ≤ _; omega, by show _ ≤ q + 2; omega⟩
/-- place behind an order, and its three numbers -/
def zxo (L : List Int32) (q : Nat) : Nat × Int32 × Int32 × Int32 :=
  if zwin (zxc L q - 48) 0 5 = true then
    (if zxc L (q + 1) = 58 then
      (if (zxs L (q + 2)).2 = -6 then ((zxs L (q + 2)).1, zxc L q - 48, -6, -6)
      else ((zxs L (zxs L (q + 2)).1).1, zxc L q - 48, (zxs L (q + 2)).2, (zxs L (zxs L (q + 2)).1).2))
    else (q + 1, zxc L q - 48, -6, -6))
  else (q, -1, -6, -6)
theorem zw26 {M : zM} {s s' : Nat} {v : Int32} : (zw M 26 0 s v) 26 0 s' = if s' = s then v else M 26 0 s' := by rw [zw_at]; rfl
theorem e7_reads {N : zM} {L : List Int32} {q : Nat} (h : zPn N L) (hq : q < 980) (ha : N 26 0 14 = nI q) : ∃ N', fX7_readsOrder N = some (zb (decide (¬ (zxo L q).2.2.2 = -6)), N') ∧ N' 26 0 14 = nI (zxo L q).1 ∧ N' 26 0 15 = (zxo L q).2.1 ∧ N' 26 0 16 = (zxo L q).2.2.1 ∧ N' 26 0 17 = (zxo L q).2.2.2 ∧ zfa4 N N' := by
  have i0 : (0 : Int32).toInt = 0 := rfl
  have i5 : (5 : Int32).toInt = 5 := rfl
  unfold fX7_readsOrder
  obtain ⟨N1, e1, a1, f1⟩ := e7_digit (a := 0) (b := 5) h (by omega) ha
  rw [i0, i5] at e1 a1
  rw [e1, zC_some, zL_eq]
  unfold zxo
  cases hd : zwin (zxc L q - 48) 0 5
  · rw [hd] at a1
    rw [if_neg (c := false = true) (by decide)] at a1
    rw [if_neg (c := false = true) (by decide), if_neg (c := false = true) (by decide)]
    rw [if_pos (show (zw N1 26 0 15 (-1)) 26 0 15 < 0 by rw [zw26, if_pos rfl]; decide), zL_eq]
    rw [if_pos (show (zw (zw N1 26 0 15 (-1)) 26 0 16 (-6)) 26 0 16 = -6 by rw [zw26, if_pos rfl]), zL_eq]
    rw [if_pos (show (zw (zw (zw N1 26 0 15 (-1)) 26 0 16 (-6)) 26 0 17 (-6)) 26 0 17 = -6 by rw [zw26, if_pos rfl])]
    refine ⟨_, rfl, ?_, ?_, ?_, ?_, ((f1.f4.trans (zfa4.w (by omega))).trans (zfa4.w (by omega))).trans (zfa4.w (by omega))⟩
    · rw [zw26, if_neg (by decide), zw26, if_neg (by decide), zw26, if_neg (by decide)]; exact a1
    · rw [zw26, if_neg (by decide), zw26, if_neg (by decide), zw26, if_pos rfl]
    · rw [zw26, if_neg (by decide), zw26, if_pos rfl]
    · rw [zw26, if_pos rfl]
  · rw [hd] at a1
    rw [if_pos (c := true = true) rfl] at a1
    rw [if_pos (c := true = true) rfl, if_pos (c := true = true) rfl]
    have hn : ¬ zxc L q - 48 < 0 := by
      have := zwin_0 hd (by omega)
      rw [zle_i, Int32_0] at this
      rw [zlt_i, Int32_0]; omega
    rw [if_neg (show ¬ (zw N1 26 0 15 (zxc L q - 48)) 26 0 15 < 0 by rw [zw26, if_pos rfl]; exact hn)]
    have a1' : (zw N1 26 0 15 (zxc L q - 48)) 26 0 14 = nI (q + 1) := by rw [zw26, if_neg (by decide)]; exact a1
    have f1' : zfa4 N (zw N1 26 0 15 (zxc L q - 48)) := f1.f4.trans (zfa4.w (by omega))
    have b1' : (zw N1 26 0 15 (zxc L q - 48)) 26 0 15 = zxc L q - 48 := by rw [zw26, if_pos rfl]
    obtain ⟨N2, hN2⟩ : ∃ X, X = zw N1 26 0 15 (zxc L q - 48) := ⟨_, rfl⟩
    rw [← hN2] at a1' f1' b1' ⊢
    obtain ⟨N3, e3, a3, f3⟩ := e7_next (c := 58) (f1'.P h) (by omega) a1'
    rw [e3, zC_some]
    by_cases c1 : zxc L (q + 1) = 58
    · rw [if_pos c1] at a3
      rw [if_pos c1, decide_eq_true c1, if_neg (show ¬ zb true = 0 by decide)]
      obtain ⟨N4, e4, a4, f4⟩ := e7_tstep (f3.P (f1'.P h)) (show q + 2 < 990 by omega) a3
      rw [e4, zC_some, zL_eq]
      have g4 : zfa4 N N4 := (f1'.trans f3.f4).trans f4.f4
      have b4 : N4 26 0 15 = zxc L q - 48 := by rw [f4.2 15 (by omega), f3.2 15 (by omega)]; exact b1'
      by_cases c2 : (zxs L (q + 2)).2 = -6
      · rw [if_pos c2, if_pos (show (zw N4 26 0 16 (zxs L (q + 2)).2) 26 0 16 = -6 by rw [zw26, if_pos rfl]; exact c2), zL_eq, if_pos (show (zw (zw N4 26 0 16 (zxs L (q + 2)).2) 26 0 17 (-6)) 26 0 17 = -6 by rw [zw26, if_pos rfl])]
        refine ⟨_, rfl, ?_, ?_, ?_, ?_, (g4.trans (zfa4.w (by omega))).trans (zfa4.w (by omega))⟩
        · rw [zw26, if_neg (by decide), zw26, if_neg (by decide)]; exact a4
        · rw [zw26, if_neg (by decide), zw26, if_neg (by decide)]; exact b4
        · rw [zw26, if_neg (by decide), zw26, if_pos rfl]; exact c2
        · rw [zw26, if_pos rfl]
      · rw [if_neg c2, if_neg (show ¬ (zw N4 26 0 16 (zxs L (q + 2)).2) 26 0 16 = -6 by rw [zw26, if_pos rfl]; exact c2)]
        have g5 : zfa4 N (zw N4 26 0 16 (zxs L (q + 2)).2) := g4.trans (zfa4.w (by omega))
        have a5 : (zw N4 26 0 16 (zxs L (q + 2)).2) 26 0 14 = nI (zxs L (q + 2)).1 := by rw [zw26, if_neg (by decide)]; exact a4
        have b5 : (zw N4 26 0 16 (zxs L (q + 2)).2) 26 0 15 = zxc L q - 48 := by rw [zw26, if_neg (by decide)]; exact b4
        have c5 : (zw N4 26 0 16 (zxs L (q + 2)).2) 26 0 16 = (zxs L (q + 2)).2 := by rw [zw26, if_pos rfl]
        obtain ⟨N5, hN5⟩ : ∃ X, X = zw N4 26 0 16 (zxs L (q + 2)).2 := ⟨_, rfl⟩
        rw [← hN5] at g5 a5 b5 c5 ⊢
        have hle := zxs_le (L := L) (q := q + 2)
        obtain ⟨N6, e6, a6, f6⟩ := e7_tstep (g5.P h) (show (zxs L (q + 2)).1 < 990 by omega) a5
        rw [e6, zC_some, zL_eq]
        have r17 : (zw N6 26 0 17 (zxs L (zxs L (q + 2)).1).2) 26 0 17 = (zxs L (zxs L (q + 2)).1).2 := by rw [zw26, if_pos rfl]
        rw [r17]
        have fin : ∀ x, x = zb (decide (¬ (zxs L (zxs L (q + 2)).1).2 = -6)) → ∃ N', some (x, zw N6 26 0 17 (zxs L (zxs L (q + 2)).1).2) = some (zb (decide (¬ (zxs L (zxs L (q + 2)).1).2 = -6)), N') ∧ N' 26 0 14 = nI (zxs L (zxs L (q + 2)).1).1 ∧ N' 26 0 15 = zxc L q - 48 ∧ N' 26 0 16 = (zxs L (q + 2)).2 ∧ N' 26 0 17 = (zxs L (zxs L (q + 2)).1).2 ∧ zfa4 N N' := by
          intro x hx
          refine ⟨_, by rw [hx], ?_, ?_, ?_, r17, (g5.trans f6.f4).trans (zfa4.w (by omega))⟩
          · rw [zw26, if_neg (by decide)]; exact a6
          · rw [zw26, if_neg (by decide), f6.2 15 (by omega)]; exact b5
          · rw [zw26, if_neg (by decide), f6.2 16 (by omega)]; exact c5
        by_cases c3 : (zxs L (zxs L (q + 2)).1).2 = -6
        · rw [if_pos c3]
          exact fin 0 (by rw [decide_eq_false (fun h => h c3)]; rfl)
        · rw [if_neg c3]
          exact fin 1 (by rw [decide_eq_true c3]; rfl)
    · rw [if_neg c1] at a3
      rw [if_neg c1, decide_eq_false c1, if_pos (show zb false = 0 from rfl), zL_eq]
      rw [if_pos (show (zw N3 26 0 16 (-6)) 26 0 16 = -6 by rw [zw26, if_pos rfl]), zL_eq]
      rw [if_pos (show (zw (zw N3 26 0 16 (-6)) 26 0 17 (-6)) 26 0 17 = -6 by rw [zw26, if_pos rfl])]
      refine ⟨_, rfl, ?_, ?_, ?_, ?_, ((f1'.trans f3.f4).trans (zfa4.w (by omega))).trans (zfa4.w (by omega))⟩
      · rw [zw26, if_neg (by decide), zw26, if_neg (by decide)]; exact a3
      · rw [zw26, if_neg (by decide), zw26, if_neg (by decide), f3.2 15 (by omega)]; exact b1'
      · rw [zw26, if_neg (by decide), zw26, if_pos rfl]
      · rw [zw26, if_pos rfl]
/-! a step, an order and the reading -/
theorem zwd {x : Int32} {a b : Nat} (ha : a ≤ 5) (hb : b ≤ 5) (hx : -1 ≤ x.toInt ∧ x.toInt ≤ 126) : zwin (x - 48) a b = zwin x (48 + a) (48 + b) := by
  rw [Bool.eq_iff_iff, zwin_iff, zwin_iff, zt_sub (x := x) (y := 48) rfl (show (48 : Int32).toInt = 48 from rfl) (by omega) (by omega)]
  omega
def zch (L : List Int32) : Prop := ∀ c, c ∈ L → 33 ≤ c.toInt ∧ c.toInt ≤ 126
theorem zxc_r {L : List Int32} (h : zch L) {q : Nat} : -1 ≤ (zxc L q).toInt ∧ (zxc L q).toInt ≤ 126 := by
  rcases Nat.lt_or_ge q L.length with a | a
  · have := h _ (List.mem_of_getElem? (zxc_in a)); omega
  · rw [zxc_out a]; decide
theorem zxs_run {L : List Int32} (h : zch L) {q s : Nat} (hs : s = 2 ∨ s = 4) (hq : q ≤ L.length) : (¬ (zxs L q).2 = -6 → (zxs L q).1 ≤ L.length ∧ zxR L q s = zxR L (zxs L q).1 (s + 2)) ∧ ((zxs L q).2 = -6 → zxR L q s = nI (zxs L q).1) := by
  have t : ∀ x, zxp s x = if x = 48 then some (s + 2) else if x = 43 then some (s + 1) else if x = 45 then some (s + 1) else none := by
    intro x
    rcases hs with rfl | rfl
    · rfl
    · rfl
  have t3 : ∀ x, zxp (s + 1) x = if zwin x 49 51 = true then some (s + 2) else none := by
    intro x
    rcases hs with rfl | rfl
    · rfl
    · rfl
  have dd : ∀ q, zwin (zxc L q - 48) 1 3 = zwin (zxc L q) 49 51 := fun q => zwd (a := 1) (b := 3) (by omega) (by omega) (zxc_r h)
  have h6 : ∀ x : Int32, zwin x 1 3 = true → ¬ x = -6 ∧ ¬ -x = -6 := by
    intro x hx
    rw [zwin_iff] at hx
    refine ⟨fun e => ?_, fun e => ?_⟩
    · rw [e, show (-6 : Int32).toInt = -6 from rfl] at hx; omega
    · have := zt_neg (x := x) rfl (by omega)
      rw [e, show (-6 : Int32).toInt = -6 from rfl] at this; omega
  -- a sign and what follows
  have sg : zxp s (zxc L q) = some (s + 1) → ∀ v : Int32, ¬ v = -6 ∨ zwin (zxc L (q + 1) - 48) 1 3 = false → (¬ (if zwin (zxc L (q + 1) - 48) 1 3 = true then (q + 2, v) else (q + 1, -6)).2 = -6 → (if zwin (zxc L (q + 1) - 48) 1 3 = true then (q + 2, v) else (q + 1, -6)).1 ≤ L.length ∧ zxR L q s = zxR L (if zwin (zxc L (q + 1) - 48) 1 3 = true then (q + 2, v) else (q + 1, -6)).1 (s + 2)) ∧ ((if zwin (zxc L (q + 1) - 48) 1 3 = true then (q + 2, v) else (q + 1, -6)).2 = -6 → zxR L q s = nI (if zwin (zxc L (q + 1) - 48) 1 3 = true then (q + 2, v) else (q + 1, -6)).1) := by
    intro hx v hv
    obtain ⟨q1, q2⟩ := zxR_s hx
    cases hd : zwin (zxc L (q + 1) - 48) 1 3
    · rw [if_neg (by decide)]
      refine ⟨fun c => absurd rfl c, fun _ => ?_⟩
      rw [q2, zxR_n (by omega) (by rw [t3, ← dd, hd]; rfl), if_neg (by omega)]
    · rw [if_pos rfl]
      obtain ⟨q3, q4⟩ := zxR_s (L := L) (q := q + 1) (s := s + 1) (s' := s + 2) (by rw [t3, ← dd, hd]; rfl)
      refine ⟨fun _ => ⟨by show q + 2 ≤ _; omega, q2.trans q4⟩, fun c => ?_⟩
      rcases hv with hv | hv
      · exact absurd c hv
      · rw [hv] at hd; cases hd
  unfold zxs
  by_cases c1 : zxc L q = 48
  · rw [if_pos c1]
    obtain ⟨q1, q2⟩ := zxR_s (L := L) (q := q) (s := s) (s' := s + 2) (by rw [t, if_pos c1])
    exact ⟨fun _ => ⟨q1, q2⟩, fun c => absurd c (show ¬ (0 : Int32) = -6 by decide)⟩
  rw [if_neg c1]
  by_cases c2 : zxc L q = 43
  · rw [if_pos c2]
    refine sg (by rw [t, if_neg c1, if_pos c2]) _ ?_
    cases hd : zwin (zxc L (q + 1) - 48) 1 3
    · exact Or.inr rfl
    · exact Or.inl (h6 _ hd).1
  rw [if_neg c2]
  by_cases c3 : zxc L q = 45
  · rw [if_pos c3]
    refine sg (by rw [t, if_neg c1, if_neg c2, if_pos c3]) _ ?_
    cases hd : zwin (zxc L (q + 1) - 48) 1 3
    · exact Or.inr rfl
    · exact Or.inl (h6 _ hd).2
  rw [if_neg c3]
  refine ⟨fun c => absurd rfl c, fun _ => ?_⟩
  rw [zxR_n hq (by rw [t, if_neg c1, if_neg c2, if_neg c3]), if_neg (by omega)]
theorem zxo_run {L : List Int32} (h : zch L) {q : Nat} (hq : q ≤ L.length) : (¬ (zxo L q).2.2.2 = -6 → q < (zxo L q).1 ∧ (zxo L q).1 ≤ L.length ∧ zxR L q 0 = zxR L (zxo L q).1 6) ∧ ((zxo L q).2.2.2 = -6 → zxR L q 0 = nI (zxo L q).1) := by
  have t0 : ∀ x, zxp 0 x = if zwin x 48 53 = true then some 1 else none := fun x => rfl
  have t1 : ∀ x, zxp 1 x = if x = 58 then some 2 else none := fun x => rfl
  have dd : zwin (zxc L q - 48) 0 5 = zwin (zxc L q) 48 53 := zwd (a := 0) (b := 5) (by omega) (by omega) (zxc_r h)
  unfold zxo
  cases hd : zwin (zxc L q - 48) 0 5
  · rw [if_neg (by decide)]
    refine ⟨fun c => absurd rfl c, fun _ => ?_⟩
    rw [zxR_n hq (by rw [t0, ← dd, hd]; rfl), if_neg (by omega)]
  rw [if_pos rfl]
  obtain ⟨q1, q2⟩ := zxR_s (L := L) (q := q) (s := 0) (s' := 1) (by rw [t0, ← dd, hd]; rfl)
  by_cases c1 : zxc L (q + 1) = 58
  · rw [if_pos c1]
    obtain ⟨q3, q4⟩ := zxR_s (L := L) (q := q + 1) (s := 1) (s' := 2) (by rw [t1, if_pos c1])
    obtain ⟨u1, u2⟩ := zxs_run h (q := q + 2) (s := 2) (Or.inl rfl) (by omega)
    by_cases c2 : (zxs L (q + 2)).2 = -6
    · rw [if_pos c2]
      refine ⟨fun c => absurd rfl c, fun _ => ?_⟩
      rw [q2, q4]; exact u2 c2
    · rw [if_neg c2]
      obtain ⟨u3, u4⟩ := u1 c2
      obtain ⟨w1, w2⟩ := zxs_run h (q := (zxs L (q + 2)).1) (s := 4) (Or.inr rfl) u3
      have l1 := zxs_le (L := L) (q := q + 2)
      have l2 := zxs_le (L := L) (q := (zxs L (q + 2)).1)
      refine ⟨fun c => ?_, fun c => ?_⟩
      · obtain ⟨w3, w4⟩ := w1 c
        exact ⟨by show q < (zxs L (zxs L (q + 2)).1).1; omega, w3, by rw [q2, q4]; exact u4.trans w4⟩
      · rw [q2, q4]; exact u4.trans (w2 c)
  · rw [if_neg c1]
    refine ⟨fun c => absurd rfl c, fun _ => ?_⟩
    rw [q2, zxR_n (by omega) (by rw [t1, if_neg c1]), if_neg (by omega)]
theorem zxp_59 {x : Int32} : zxp 6 x = if x = 59 then some 0 else none := rfl
theorem l7_ff {L : List Int32} (h : zch L) : ∀ (c q n : Nat) (N : zM), L.length + 1 - q ≤ c → c < n → q ≤ L.length → zPn N L → N 26 0 14 = nI q →
    ∃ N', fX7_findFault_L5 (fun M26 => some (M26 26 0 14, M26)) n N = some (zxR L q 0, N') ∧ zfa4 N N' := by
  intro c
  induction c with
  | zero => intro q n N h1 _ h2 _ _; omega
  | succ c ih =>
    intro q n N h1 hn h2 hp ha
    obtain ⟨n, rfl⟩ : ∃ q, n = q + 1 := ⟨n - 1, by omega⟩
    have h60 := hp.2.2
    unfold fX7_findFault_L5
    obtain ⟨N1, e1, a1, _, _, _, f1⟩ := e7_reads hp (by omega) ha
    obtain ⟨u1, u2⟩ := zxo_run h h2
    rw [e1, zC_some]
    by_cases c1 : (zxo L q).2.2.2 = -6
    · rw [decide_eq_false (fun h => h c1), if_pos (show zb false = 0 from rfl), a1, ← u2 c1]
      exact ⟨N1, rfl, f1⟩
    · obtain ⟨u3, u4, u5⟩ := u1 c1
      rw [decide_eq_true c1, if_neg (show ¬ zb true = 0 by decide), a1, (f1.P hp).1, u5]
      by_cases c2 : (zxo L q).1 = L.length
      · rw [if_pos (by rw [c2]), c2, zxR_e, if_pos rfl]
        exact ⟨N1, rfl, f1⟩
      · rw [if_neg (by rw [zeq (by omega) (by omega)]; exact c2)]
        obtain ⟨N2, e2, a2, f2⟩ := e7_next (c := 59) (f1.P hp) (by omega) a1
        rw [e2, zC_some]
        by_cases c3 : zxc L (zxo L q).1 = 59
        · rw [if_pos c3] at a2
          rw [decide_eq_true c3, if_neg (show ¬ zb true = 0 by decide)]
          obtain ⟨w1, w2⟩ := zxR_s (L := L) (q := (zxo L q).1) (s := 6) (s' := 0) (by rw [zxp_59, if_pos c3])
          obtain ⟨N3, e3, f3⟩ := ih ((zxo L q).1 + 1) n N2 (by omega) (by omega) (by omega) (f2.P (f1.P hp)) a2
          rw [w2]
          exact ⟨N3, e3, (f1.trans f2.f4).trans f3⟩
        · rw [if_neg c3] at a2
          rw [decide_eq_false c3, if_pos (show zb false = 0 from rfl), a2, zxR_n u4 (by rw [zxp_59, if_neg c3]), if_neg (fun h => c2 h.2)]
          exact ⟨N2, rfl, f1.trans f2.f4⟩
theorem e7_fault {N : zM} {L : List Int32} (h : zch L) (hp : zPn N L) : ∃ N', fX7_findFault N = some (zxR L 0 0, N') ∧ zfa4 N N' := by
  unfold fX7_findFault
  rw [zL_eq]
  have f0 : zfa4 N (zw N 26 0 14 0) := zfa4.w (by omega)
  obtain ⟨N', e, f⟩ := l7_ff h (L.length + 1) 0 2000 (zw N 26 0 14 0) (by omega) (by have := hp.2.2; omega) (by omega) (f0.P hp) (by rw [zw26, if_pos rfl]; rfl)
  exact ⟨N', e, f0.trans f⟩
theorem zCR.P {M : zM} {σ : zSg} (h0 : zOK σ) (h : zCR M σ) : zPk M σ.2.2.2.2 := ⟨h.2.2.2.2.1, h.2.2.2.2.2, h0.2.2.2.2.2.1⟩
theorem zRR.P {N : zM} {σ : zSg} (h0 : zOK σ) (h : zRR N σ) : zPn N σ.2.2.2.2 := ⟨h.2.2.2.2.1, h.2.2.2.2.2, h0.2.2.2.2.2.1⟩
theorem j_fault {M N : zM} {σ : zSg} (h0 : zOK σ) (h1 : zCR M σ) (h2 : zRR N σ) : zJ (fX6_fault M) (fX7_fault N) M N := by
  unfold fX6_fault fX7_fault
  obtain ⟨N1, e1, f1⟩ := e7_fault h0.2.2.2.2.2.2 (h2.P h0)
  rw [e1_fault (h1.P h0), e1, zC_some, zC_some]
  exact zJ.ans h0 h1 h2 zgs.refl h1.1 f1.gn (by rw [f1.1 27 0 (by omega)]; exact h2.1)
