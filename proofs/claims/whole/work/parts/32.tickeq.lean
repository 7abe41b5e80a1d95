/-! points -/
def zo7 (W A : zA) : Prop := ∀ k p, p ≠ 7 → A k p = W k p
theorem zo7.refl {W : zA} : zo7 W W := fun _ _ _ => rfl
theorem zo7.ht {C W A : zA} (h : zo7 W A) (k o : Nat) : zht C A k o = zht C W k o := by
  unfold zht; rw [h k 6 (by omega), h k (12 + zpl C k o) (by omega)]
theorem zpt_o7 {C W : zA} {s : zA × Int32 × Int32} {q : Nat × Nat} (h : zo7 W s.1) : zo7 W (zpt C s q).1 := by
  unfold zpt; split
  · exact fun k p hp => by show zp s.1 q.2 7 _ k p = _; rw [zp_np hp]; exact h k p hp
  · exact h
theorem zpt_val {C W : zA} : ∀ (L : List (Nat × Nat)) (s : zA × Int32 × Int32), zo7 W s.1 →
    zo7 W (L.foldl (zpt C) s).1 ∧ (∀ k, (L.foldl (zpt C) s).1 k 7 = s.1 k 7 + zls (fun q => if zht C W q.1 q.2 && k == q.2 then 1 else 0) L) ∧ (L.foldl (zpt C) s).2.1 = L.foldl (fun m q => if zht C W q.1 q.2 then m ||| zbit q.1 else m) s.2.1 ∧ (L.foldl (zpt C) s).2.2 = L.foldl (fun m q => if zht C W q.1 q.2 then m ||| zbit q.2 else m) s.2.2 := by
  intro L
  induction L with
  | nil => intro s h; exact ⟨h, fun k => by show s.1 k 7 = s.1 k 7 + 0; rw [Int32.add_zero], rfl, rfl⟩
  | cons q L ih =>
    intro s h
    obtain ⟨h1, h2, h3, h4⟩ := ih (zpt C s q) (zpt_o7 h)
    rw [List.foldl_cons]
    refine ⟨h1, fun k => ?_, ?_, ?_⟩
    · rw [h2 k]
      show _ = s.1 k 7 + ((if zht C W q.1 q.2 && k == q.2 then 1 else 0) + zls (fun q => if zht C W q.1 q.2 && k == q.2 then 1 else 0) L)
      rw [← Int32.add_assoc]
      congr 1
      unfold zpt
      rw [h.ht]
      cases zht C W q.1 q.2
      · simp
      · simp only [if_true, Bool.true_and, beq_iff_eq]
        by_cases hk : k = q.2
        · subst hk; rw [zp_at, if_pos rfl]
        · rw [zp_nk hk, if_neg hk, Int32.add_zero]
    · rw [h3, List.foldl_cons]
      congr 1
      unfold zpt; rw [h.ht]
      cases zht C W q.1 q.2 <;> simp
    · rw [h4, List.foldl_cons]
      congr 1
      unfold zpt; rw [h.ht]
      cases zht C W q.1 q.2 <;> simp
def zps (C : zA) (s : zA × Int32) (q : Nat × Nat) : zA × Int32 := if zht C s.1 q.1 q.2 then (zp s.1 q.2 7 (s.1 q.2 7 + 1), s.2 ||| zbit q.2) else s
theorem zps_pt {C : zA} : ∀ (L : List (Nat × Nat)) (s : zA × Int32) (m : Int32), L.foldl (zps C) s = ((L.foldl (zpt C) (s.1, m, s.2)).1, (L.foldl (zpt C) (s.1, m, s.2)).2.2) := by
  intro L
  induction L with
  | nil => intro s m; rfl
  | cons q L ih =>
    intro s m
    rw [List.foldl_cons, List.foldl_cons]
    unfold zps zpt
    dsimp only
    cases zht C s.1 q.1 q.2
    · simp only [Bool.false_eq_true, if_false]; exact ih s m
    · simp only [if_true]; exact ih _ _
theorem zps_one {C W : zA} {s : zA × Int32} {q : Nat × Nat} (h : zo7 W s.1) : zps C s q = if zht C W q.1 q.2 then (zp s.1 q.2 7 (s.1 q.2 7 + 1), s.2 ||| zbit q.2) else s := by unfold zps; rw [h.ht]
theorem zq2_list {C W : zA} {P : Nat → Bool} {k : Nat} (hP : ∀ o, o < 6 → zcr C o k = true → zht C W o k = true → P o = true) : ∀ (c o : Nat) (L : List (Nat × Nat)) (g : Int32), o + c ≤ 6 → zf (zq2 C (zmk P) k) c o (L.foldl (zps C) (W, g)) = (zf (zrj C k) c o L).foldl (zps C) (W, g) := by
  intro c
  induction c with
  | zero => intro o L g _; rfl
  | succ c ih =>
    intro o L g ho
    show zf (zq2 C (zmk P) k) c (o + 1) (zq2 C (zmk P) k o (L.foldl (zps C) (W, g))) = (zf (zrj C k) c (o + 1) (zrj C k o L)).foldl (zps C) (W, g)
    rw [← ih (o + 1) _ g (by omega)]
    congr 1
    have h7 : zo7 W (L.foldl (zps C) (W, g)).1 := by rw [zps_pt L (W, g) 0]; exact (zpt_val L (W, 0, g) zo7.refl).1
    unfold zq2 zrj
    rw [h7.ht, zmk_bq (by omega)]
    cases hc : zcr C o k
    · simp
    · cases hh : zht C W o k
      · simp only [Bool.and_false, Bool.false_eq_true, if_false, if_true]
        rw [List.foldl_append]
        show _ = zps C (L.foldl (zps C) (W, g)) (o, k)
        rw [zps_one h7]; dsimp only; rw [hh]; simp
      · rw [hP o (by omega) hc hh]
        simp only [Bool.and_true, if_true]
        rw [List.foldl_append]
        show _ = zps C (L.foldl (zps C) (W, g)) (o, k)
        rw [zps_one h7]; dsimp only; rw [hh]; simp
theorem zq3_list {C W : zA} {P : Nat → Bool} {K : Nat} (hK : K ≤ 6) (hP : ∀ k o, k < 6 → o < 6 → zcr C o k = true → zht C W o k = true → P o = true) : ∀ (c i : Nat) (L : List (Nat × Nat)) (g : Int32), i + c ≤ K → zf (zq3 C (zmk P) K) c i (L.foldl (zps C) (W, g)) = (zf (fun k L => zf (zrj C k) K 0 L) c i L).foldl (zps C) (W, g) := by
  intro c
  induction c with
  | zero => intro i L g _; rfl
  | succ c ih =>
    intro i L g hi
    show zf (zq3 C (zmk P) K) c (i + 1) (zf (zq2 C (zmk P) i) K 0 (L.foldl (zps C) (W, g))) = _
    rw [zq2_list (fun o ho => hP i o (by omega) ho) K 0 L g (by omega), ih (i + 1) _ g (by omega)]
    rfl
theorem zrj_mem {C : zA} {k : Nat} {q : Nat × Nat} : ∀ (c o : Nat) (L : List (Nat × Nat)), q ∈ zf (zrj C k) c o L ↔ q ∈ L ∨ ∃ o', o ≤ o' ∧ o' < o + c ∧ zcr C o' k = true ∧ q = (o', k) := by
  intro c
  induction c with
  | zero =>
    intro o L; constructor
    · exact fun h => Or.inl h
    · rintro (h | ⟨o', h1, h2, -⟩)
      · exact h
      · omega
  | succ c ih =>
    intro o L
    show q ∈ zf (zrj C k) c (o + 1) (zrj C k o L) ↔ _
    rw [ih]
    have hz : q ∈ zrj C k o L ↔ q ∈ L ∨ (zcr C o k = true ∧ q = (o, k)) := by
      unfold zrj
      cases zcr C o k <;> simp
    rw [hz]
    constructor
    · rintro ((h | h) | ⟨o', h1, h2, h3⟩)
      · exact Or.inl h
      · exact Or.inr ⟨o, Nat.le_refl _, by omega, h⟩
      · exact Or.inr ⟨o', by omega, by omega, h3⟩
    · rintro (h | ⟨o', h1, h2, h3⟩)
      · exact Or.inl (Or.inl h)
      · by_cases ho : o' = o
        · subst ho; exact Or.inl (Or.inr h3)
        · exact Or.inr ⟨o', by omega, by omega, h3⟩
theorem zcr_6 {C : zA} (hK : zKn C ≤ 6) {k o : Nat} (h : zcr C k o = true) : k < zKn C ∧ o < zKn C ∧ k < 6 ∧ o < 6 := by
  rcases Nat.lt_or_ge k (zKn C) with a | a
  · rcases Nat.lt_or_ge o (zKn C) with b | b
    · exact ⟨a, b, by omega, by omega⟩
    · rw [zcr_out (Or.inr b)] at h; cases h
  · rw [zcr_out (Or.inl a)] at h; cases h
theorem zrm_mem {C : zA} (hK : zKn C ≤ 6) {q : Nat × Nat} : q ∈ zrm C 6 ↔ zcr C q.1 q.2 = true := by
  have key : ∀ (c i : Nat) (L : List (Nat × Nat)), i + c = 6 → (q ∈ zf (fun k L => zf (zrj C k) 6 0 L) c i L ↔ q ∈ L ∨ ∃ i' o', i ≤ i' ∧ i' < 6 ∧ o' < 6 ∧ zcr C o' i' = true ∧ q = (o', i')) := by
    intro c
    induction c with
    | zero =>
      intro i L hi; constructor
      · exact fun h => Or.inl h
      · rintro (h | ⟨i', o', h1, h2, -⟩)
        · exact h
        · omega
    | succ c ih =>
      intro i L hi
      show q ∈ zf (fun k L => zf (zrj C k) 6 0 L) c (i + 1) (zf (zrj C i) 6 0 L) ↔ _
      rw [ih (i + 1) _ (by omega), zrj_mem]
      constructor
      · rintro ((h | ⟨o', h1, h2, h3, h4⟩) | ⟨i', o', h1, h2⟩)
        · exact Or.inl h
        · exact Or.inr ⟨i, o', Nat.le_refl _, by omega, by omega, h3, h4⟩
        · exact Or.inr ⟨i', o', by omega, h2⟩
      · rintro (h | ⟨i', o', h1, h2, h3, h4, h5⟩)
        · exact Or.inl (Or.inl h)
        · by_cases hi' : i' = i
          · subst hi'; exact Or.inl (Or.inr ⟨o', by omega, by omega, h4, h5⟩)
          · exact Or.inr ⟨i', o', by omega, h2, h3, h4, h5⟩
  unfold zrm
  rw [key 6 0 [] (by omega)]
  constructor
  · rintro (h | ⟨i', o', h1, h2, h3, h4, rfl⟩)
    · simp at h
    · exact h4
  · intro h
    have h6 := zcr_6 hK h
    exact Or.inr ⟨q.2, q.1, by omega, h6.2.2.2, h6.2.2.1, h, rfl⟩
theorem zany_eq {L L' : List (Nat × Nat)} {f : Nat × Nat → Bool} (h : ∀ q, q ∈ L ↔ q ∈ L') : L.any f = L'.any f := by
  rw [Bool.eq_iff_iff, List.any_eq_true, List.any_eq_true]
  constructor
  · rintro ⟨q, h1, h2⟩; exact ⟨q, (h q).mp h1, h2⟩
  · rintro ⟨q, h1, h2⟩; exact ⟨q, (h q).mpr h1, h2⟩
/-! the greatest wear -/
theorem zgw_ge {A : zA} {k : Nat} : ∀ (c p : Nat) (m : Int32), m.toInt ≤ (zf (fun p m => if A k (12 + p) ≤ m then m else A k (12 + p)) c p m).toInt ∧ ∀ q, p ≤ q → q < p + c → (A k (12 + q)).toInt ≤ (zf (fun p m => if A k (12 + p) ≤ m then m else A k (12 + p)) c p m).toInt := by
  intro c
  induction c with
  | zero => intro p m; exact ⟨Int.le_refl _, fun q h1 h2 => by omega⟩
  | succ c ih =>
    intro p m
    show m.toInt ≤ (zf _ c (p + 1) (if A k (12 + p) ≤ m then m else A k (12 + p))).toInt ∧ ∀ q, p ≤ q → q < p + (c + 1) → (A k (12 + q)).toInt ≤ (zf _ c (p + 1) (if A k (12 + p) ≤ m then m else A k (12 + p))).toInt
    obtain ⟨h1, h2⟩ := ih (p + 1) (if A k (12 + p) ≤ m then m else A k (12 + p))
    have h3 : m.toInt ≤ (if A k (12 + p) ≤ m then m else A k (12 + p)).toInt ∧ (A k (12 + p)).toInt ≤ (if A k (12 + p) ≤ m then m else A k (12 + p)).toInt := by
      by_cases hc : A k (12 + p) ≤ m
      · rw [if_pos hc]; rw [zle_i] at hc; omega
      · rw [if_neg hc]; rw [zle_i] at hc; omega
    refine ⟨by omega, fun q h4 h5 => ?_⟩
    by_cases hq : q = p
    · subst hq; omega
    · exact h2 q (by omega) (by omega)
theorem zgw_is {A : zA} {k : Nat} : ∀ (c p : Nat) (m : Int32), zf (fun p m => if A k (12 + p) ≤ m then m else A k (12 + p)) c p m = m ∨ ∃ q, p ≤ q ∧ q < p + c ∧ zf (fun p m => if A k (12 + p) ≤ m then m else A k (12 + p)) c p m = A k (12 + q) := by
  intro c
  induction c with
  | zero => intro p m; exact Or.inl rfl
  | succ c ih =>
    intro p m
    show zf _ c (p + 1) (if A k (12 + p) ≤ m then m else A k (12 + p)) = m ∨ ∃ q, p ≤ q ∧ q < p + (c + 1) ∧ zf _ c (p + 1) (if A k (12 + p) ≤ m then m else A k (12 + p)) = A k (12 + q)
    rcases ih (p + 1) (if A k (12 + p) ≤ m then m else A k (12 + p)) with h | ⟨q, h1, h2, h3⟩
    · rw [h]
      by_cases hc : A k (12 + p) ≤ m
      · rw [if_pos hc]; exact Or.inl rfl
      · rw [if_neg hc]; exact Or.inr ⟨p, Nat.le_refl _, by omega, rfl⟩
    · exact Or.inr ⟨q, by omega, by omega, h3⟩
theorem zgw_iff {A : zA} {k : Nat} {t : Int} (ht : 0 < t) : t ≤ (zgw A k).toInt ↔ ∃ q, q < 32 ∧ t ≤ (A k (12 + q)).toInt := by
  constructor
  · intro h
    rcases zgw_is (A := A) (k := k) 32 0 0 with e | ⟨q, h1, h2, e⟩
    · have : zgw A k = 0 := e
      rw [this, Int32_0] at h; omega
    · have : zgw A k = A k (12 + q) := e
      exact ⟨q, by omega, by rw [← this]; exact h⟩
  · rintro ⟨q, h1, h2⟩
    have := (zgw_ge (A := A) (k := k) 32 0 0).2 q (by omega) (by omega)
    have e : zgw A k = zf (fun p m => if A k (12 + p) ≤ m then m else A k (12 + p)) 32 0 0 := rfl
    rw [e]; omega
theorem zls_zero {f : Nat × Nat → Int32} : ∀ {L : List (Nat × Nat)}, (∀ q, q ∈ L → f q = 0) → zls f L = 0 := by
  intro L
  induction L with
  | nil => intro _; rfl
  | cons q L ih => intro h; show f q + zls f L = 0; rw [h q List.mem_cons_self, ih (fun q hq => h q (List.mem_cons_of_mem _ hq)), Int32.add_zero]
/-! who is cut -/
def zWC (C : zA) : zA := (znt C).foldl (zad C) C
def zcutP (C : zA) (k : Nat) : Bool := (znt C).any (fun q => zht C (zWC C) q.1 q.2 && k == q.1)
def zgotP (C : zA) (k : Nat) : Bool := (znt C).any (fun q => zht C (zWC C) q.1 q.2 && k == q.2)
theorem zWC_lo {C : zA} {k p : Nat} (hp : p < 12) : zWC C k p = C k p := by
  unfold zWC; rw [zad_val, zls_zero, Int32.add_zero]
  intro q _; unfold zct; rw [if_neg (by omega)]
theorem zWC_hi {C : zA} (hK : zKn C ≤ 6) {k p : Nat} (hk : 6 ≤ k) : zWC C k p = C k p := by
  unfold zWC; rw [zad_val, zls_zero, Int32.add_zero]
  intro q hq; unfold zct; rw [if_neg]
  rintro ⟨h1, -⟩
  have := (zcr_6 hK ((znt_mem hK).mp hq)).2.2.1
  omega
theorem zWC_sa {C : zA} (hK : zKn C ≤ 6) : zsa C (zWC C) := by
  intro k p h
  rcases h with ⟨h1, h2, h3⟩ | ⟨h1, h2⟩
  · exact zWC_lo h2
  · exact zWC_hi hK (by omega)
theorem zcut_iff {C : zA} (h : zok C) {k : Nat} (hk : k < 6) : zcutP C k = (zfly (zWC C) k && decide ((zWC C k 6).toInt ≤ (zgw (zWC C) k).toInt)) := by
  have hK := h.2.1
  rw [(zWC_sa hK).fly hk, Bool.eq_iff_iff]
  unfold zcutP
  rw [List.any_eq_true, Bool.and_eq_true, decide_eq_true_eq]
  constructor
  · rintro ⟨q, hq, h2⟩
    rw [Bool.and_eq_true, beq_iff_eq] at h2
    obtain ⟨h2, rfl⟩ := h2
    have hcr := (znt_mem hK).mp hq
    have hf : zfly C q.1 = true := by
      unfold zcr at hcr; simp only [Bool.and_eq_true] at hcr; exact hcr.1.1
    refine ⟨hf, ?_⟩
    have h3 : (zWC C q.1 6).toInt ≤ (zWC C q.1 (12 + zpl C q.1 q.2)).toInt := of_decide_eq_true h2
    have hs : 0 < (zWC C q.1 6).toInt := by
      rw [zWC_lo (by omega)]
      have := (h.2.2 q.1 (zfly_lt hf).1).2.2.2.2.2.2.1
      omega
    exact (zgw_iff hs).mpr ⟨_, zpl_lt hcr, h3⟩
  · rintro ⟨hf, h2⟩
    have hkite := h.2.2 k (zfly_lt hf).1
    have hs : 0 < (zWC C k 6).toInt := by
      rw [zWC_lo (by omega)]
      have := hkite.2.2.2.2.2.2.1
      omega
    obtain ⟨p, hp, h3⟩ := (zgw_iff hs).mp h2
    have hlt : (C k (12 + p)).toInt < (C k 6).toInt := hkite.2.2.2.2.2.2.2.2.2.2.2.2 (zfly_lt hf).2 p hp
    rw [zWC_lo (show 6 < 12 by omega)] at h3
    by_cases hex : ∃ q, q ∈ znt C ∧ q.1 = k ∧ 12 + p = 12 + zpl C q.1 q.2
    · obtain ⟨q, hq, rfl, h5⟩ := hex
      refine ⟨q, hq, ?_⟩
      rw [Bool.and_eq_true, beq_self_eq_true]
      refine ⟨decide_eq_true ?_, rfl⟩
      rw [← h5, zWC_lo (show 6 < 12 by omega)]; exact h3
    · exfalso
      have : zWC C k (12 + p) = C k (12 + p) := by
        unfold zWC; rw [zad_val, zls_zero, Int32.add_zero]
        intro q hq; unfold zct; rw [if_neg (fun hc => hex ⟨q, hq, hc⟩)]
      rw [this] at h3; omega
