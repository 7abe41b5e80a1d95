/-! ===== both ticks are one: sums over lists of pairs ===== -/
def zls (f : Nat × Nat → Int32) : List (Nat × Nat) → Int32
  | [] => 0
  | q :: L => f q + zls f L
theorem zls_app {f : Nat × Nat → Int32} {L1 L2 : List (Nat × Nat)} : zls f (L1 ++ L2) = zls f L1 + zls f L2 := by
  induction L1 with
  | nil => show zls f L2 = 0 + zls f L2; rw [Int32.zero_add]
  | cons q L ih => show f q + zls f (L ++ L2) = f q + zls f L + zls f L2; rw [ih, Int32.add_assoc]
theorem zls_congr {f f' : Nat × Nat → Int32} : ∀ {L : List (Nat × Nat)}, (∀ q, q ∈ L → f q = f' q) → zls f L = zls f' L := by
  intro L
  induction L with
  | nil => intro _; rfl
  | cons q L ih => intro h; show f q + zls f L = f' q + zls f' L; rw [h q List.mem_cons_self, ih (fun q hq => h q (List.mem_cons_of_mem _ hq))]
def ztt (C : zA) (f : Nat × Nat → Int32) (k o : Nat) : Int32 := if zcr C k o then f (k, o) else 0
theorem ztt_self {C : zA} {f : Nat × Nat → Int32} {k : Nat} : ztt C f k k = 0 := by unfold ztt; rw [zcr_self]; simp
theorem zls_in {C : zA} {f : Nat × Nat → Int32} {i o : Nat} {L : List (Nat × Nat)} : zls f (zin C i o L) = zls f L + (ztt C f i o + ztt C f o i) := by
  unfold zin ztt
  rw [zcr_sym (k := i) (o := o)]
  cases zcr C i o
  · simp
  · simp only [if_true]
    rw [zls_app]; congr 1
    show f (i, o) + (f (o, i) + 0) = _
    rw [Int32.add_zero]
theorem zou_eq {C : zA} {i : Nat} {L : List (Nat × Nat)} : zou C i L = zf (zin C i) (5 - i) (i + 1) L := by
  unfold zou
  cases h : zfly C i
  · simp only [Bool.false_eq_true, if_false]
    refine (zf_id _ _ _ (fun o _ _ s => ?_)).symm
    unfold zin
    have : zcr C i o = false := by unfold zcr; rw [h]; simp
    rw [this]; simp
  · simp
/-- the pairs, first the owner, then who crosses it, row by row -/
def zri (C : zA) (k : Nat) : Nat → List (Nat × Nat) → List (Nat × Nat) := fun o L => if zcr C k o then L ++ [(k, o)] else L
def zrl (C : zA) (n : Nat) : List (Nat × Nat) := zf (fun k L => zf (zri C k) n 0 L) n 0 []
/-- the pairs, first who crosses -/
def zrj (C : zA) (k : Nat) : Nat → List (Nat × Nat) → List (Nat × Nat) := fun o L => if zcr C o k then L ++ [(o, k)] else L
def zrm (C : zA) (n : Nat) : List (Nat × Nat) := zf (fun k L => zf (zrj C k) n 0 L) n 0 []
theorem zls_ri {C : zA} {f : Nat × Nat → Int32} {k o : Nat} {L : List (Nat × Nat)} : zls f (zri C k o L) = zls f L + ztt C f k o := by
  unfold zri ztt
  cases zcr C k o
  · simp
  · simp only [if_true]; rw [zls_app]; congr 1; show f (k, o) + 0 = _; rw [Int32.add_zero]
theorem zls_rj {C : zA} {f : Nat × Nat → Int32} {k o : Nat} {L : List (Nat × Nat)} : zls f (zrj C k o L) = zls f L + ztt C f o k := by
  unfold zrj ztt
  cases zcr C o k
  · simp
  · simp only [if_true]; rw [zls_app]; congr 1; show f (o, k) + 0 = _; rw [Int32.add_zero]
set_option maxHeartbeats 4000000 in
theorem zls_rl {C : zA} {f : Nat × Nat → Int32} : zls f (zrl C 6) = zls f (znt C) := by
  unfold zrl znt
  simp only [zf, zou_eq, zls_ri, zls_in, zls, ztt_self, Nat.zero_add, Nat.reduceAdd, Nat.reduceSub, Int32.add_zero, Int32.zero_add]
  ac_rfl
set_option maxHeartbeats 4000000 in
theorem zls_rm {C : zA} {f : Nat × Nat → Int32} : zls f (zrm C 6) = zls f (znt C) := by
  unfold zrm znt
  simp only [zf, zou_eq, zls_rj, zls_in, zls, ztt_self, Nat.zero_add, Nat.reduceAdd, Nat.reduceSub, Int32.add_zero, Int32.zero_add]
  ac_rfl
/-- wear as a sum -/
def zct (C : zA) (k p : Nat) (q : Nat × Nat) : Int32 := if q.1 = k ∧ p = 12 + zpl C q.1 q.2 then zrb C q.1 q.2 else 0
theorem zad_val {C : zA} {k p : Nat} : ∀ (L : List (Nat × Nat)) (A : zA), L.foldl (zad C) A k p = A k p + zls (zct C k p) L := by
  intro L
  induction L with
  | nil => intro A; show A k p = A k p + 0; rw [Int32.add_zero]
  | cons q L ih =>
    intro A
    rw [List.foldl_cons, ih]
    show _ = A k p + (zct C k p q + zls (zct C k p) L)
    rw [← Int32.add_assoc]
    congr 1
    unfold zad zct zp
    by_cases h : k = q.1 ∧ p = 12 + zpl C q.1 q.2
    · rw [if_pos h, if_pos ⟨h.1.symm, h.2⟩]
      obtain ⟨h1, h2⟩ := h
      rw [h1, h2]
    · rw [if_neg h, if_neg (fun q2 => h ⟨q2.1.symm, q2.2⟩), Int32.add_zero]
theorem zria_list {C : zA} {k : Nat} {A0 : zA} : ∀ (c o : Nat) (L : List (Nat × Nat)), zf (zria C k) c o (L.foldl (zad C) A0) = (zf (zri C k) c o L).foldl (zad C) A0 := by
  intro c
  induction c with
  | zero => intro o L; rfl
  | succ c ih =>
    intro o L
    show zf (zria C k) c (o + 1) (zria C k o (L.foldl (zad C) A0)) = (zf (zri C k) c (o + 1) (zri C k o L)).foldl (zad C) A0
    rw [← ih]
    congr 1
    unfold zria zri
    cases zcr C k o
    · simp
    · simp only [if_true]; rw [List.foldl_append]; rfl
theorem zroa_list {C : zA} {n : Nat} {A0 : zA} : ∀ (c i : Nat) (L : List (Nat × Nat)), zf (zroa C n) c i (L.foldl (zad C) A0) = (zf (fun k L => zf (zri C k) n 0 L) c i L).foldl (zad C) A0 := by
  intro c
  induction c with
  | zero => intro i L; rfl
  | succ c ih =>
    intro i L
    show zf (zroa C n) c (i + 1) (zf (zria C i) n 0 (L.foldl (zad C) A0)) = _
    rw [zria_list, ih]
    rfl
theorem zcr_out {C : zA} {k o : Nat} (h : zKn C ≤ k ∨ zKn C ≤ o) : zcr C k o = false := by
  unfold zcr zfly
  rcases h with h | h
  · simp [show ¬ k < zKn C by omega]
  · simp [show ¬ o < zKn C by omega]
theorem zrl_cut {C : zA} (h : zKn C ≤ 6) : zrl C (zKn C) = zrl C 6 := by
  unfold zrl
  rw [zf_cut h]
  · refine zf_congr _ _ _ (fun k _ _ L => ?_)
    refine (zf_cut h L (fun o h1 _ s => ?_)).symm
    unfold zri; rw [zcr_out (Or.inr h1)]; simp
  · intro k h1 _ L
    refine zf_id _ _ _ (fun o _ _ s => ?_)
    unfold zri; rw [zcr_out (Or.inl h1)]; simp
theorem zrm_cut {C : zA} (h : zKn C ≤ 6) : zrm C (zKn C) = zrm C 6 := by
  unfold zrm
  rw [zf_cut h]
  · refine zf_congr _ _ _ (fun k _ _ L => ?_)
    refine (zf_cut h L (fun o h1 _ s => ?_)).symm
    unfold zrj; rw [zcr_out (Or.inl h1)]; simp
  · intro k h1 _ L
    refine zf_id _ _ _ (fun o _ _ s => ?_)
    unfold zrj; rw [zcr_out (Or.inr h1)]; simp
/-- the wear of the reference is that of the class -/
theorem zW_eq {C : zA} (h : zKn C ≤ 6) : zf (zroa C (zKn C)) (zKn C) 0 C = (znt C).foldl (zad C) C := by
  have e := zroa_list (C := C) (n := zKn C) (A0 := C) (zKn C) 0 []
  have e' : zf (zroa C (zKn C)) (zKn C) 0 C = (zrl C (zKn C)).foldl (zad C) C := e
  rw [e', zrl_cut h]
  funext k p
  rw [zad_val, zad_val, zls_rl]
/-! masks -/
def zmk (P : Nat → Bool) : Int32 := zf (fun k m => if P k then m ||| zbit k else m) 6 0 0
def zm6 (b0 b1 b2 b3 b4 b5 : Bool) : Int32 :=
  let m0 := if b0 then (0 : Int32) ||| zbit 0 else 0
  let m1 := if b1 then m0 ||| zbit 1 else m0
  let m2 := if b2 then m1 ||| zbit 2 else m1
  let m3 := if b3 then m2 ||| zbit 3 else m2
  let m4 := if b4 then m3 ||| zbit 4 else m3
  if b5 then m4 ||| zbit 5 else m4
theorem zmk_6 {P : Nat → Bool} : zmk P = zm6 (P 0) (P 1) (P 2) (P 3) (P 4) (P 5) := rfl
theorem zmk_congr {P P' : Nat → Bool} (h : ∀ k, k < 6 → P k = P' k) : zmk P = zmk P' := by
  rw [zmk_6, zmk_6, h 0 (by omega), h 1 (by omega), h 2 (by omega), h 3 (by omega), h 4 (by omega), h 5 (by omega)]
theorem zm6_or : ∀ (b0 b1 b2 b3 b4 b5 : Bool) (k : Fin 6), zm6 b0 b1 b2 b3 b4 b5 ||| zbit k.val = zm6 (b0 || (0 == k.val)) (b1 || (1 == k.val)) (b2 || (2 == k.val)) (b3 || (3 == k.val)) (b4 || (4 == k.val)) (b5 || (5 == k.val)) := by decide +kernel
theorem zmk_or {P : Nat → Bool} {k : Nat} (hk : k < 6) : zmk P ||| zbit k = zmk (fun i => P i || i == k) := by
  rw [zmk_6, zmk_6]; exact zm6_or _ _ _ _ _ _ ⟨k, hk⟩
theorem zm6_bq : ∀ (b0 b1 b2 b3 b4 b5 : Bool), zbq (zm6 b0 b1 b2 b3 b4 b5) 0 = b0 ∧ zbq (zm6 b0 b1 b2 b3 b4 b5) 1 = b1 ∧ zbq (zm6 b0 b1 b2 b3 b4 b5) 2 = b2 ∧ zbq (zm6 b0 b1 b2 b3 b4 b5) 3 = b3 ∧ zbq (zm6 b0 b1 b2 b3 b4 b5) 4 = b4 ∧ zbq (zm6 b0 b1 b2 b3 b4 b5) 5 = b5 := by decide +kernel
theorem zmk_bq {P : Nat → Bool} {k : Nat} (hk : k < 6) : zbq (zmk P) k = P k := by
  have h := zm6_bq (P 0) (P 1) (P 2) (P 3) (P 4) (P 5)
  rw [zmk_6]
  obtain ⟨h0, h1, h2, h3, h4, h5⟩ := h
  obtain rfl | rfl | rfl | rfl | rfl | rfl : k = 0 ∨ k = 1 ∨ k = 2 ∨ k = 3 ∨ k = 4 ∨ k = 5 := by omega
  · exact h0
  · exact h1
  · exact h2
  · exact h3
  · exact h4
  · exact h5
theorem zmk_0 : zmk (fun _ => false) = 0 := by decide +kernel
theorem zmk_fold {hit : Nat × Nat → Bool} {sel : Nat × Nat → Nat} : ∀ (L : List (Nat × Nat)) (P : Nat → Bool), (∀ q, q ∈ L → sel q < 6) → L.foldl (fun m q => if hit q then m ||| zbit (sel q) else m) (zmk P) = zmk (fun i => P i || L.any (fun q => hit q && i == sel q)) := by
  intro L
  induction L with
  | nil => intro P _; simp
  | cons q L ih =>
    intro P h
    rw [List.foldl_cons]
    cases hq : hit q
    · simp only [Bool.false_eq_true, if_false]
      rw [ih P (fun q hq => h q (List.mem_cons_of_mem _ hq))]
      exact zmk_congr (fun i _ => by simp [List.any_cons, hq])
    · simp only [if_true]
      rw [zmk_or (h q List.mem_cons_self), ih _ (fun q hq => h q (List.mem_cons_of_mem _ hq))]
      exact zmk_congr (fun i _ => by simp [List.any_cons, hq, Bool.or_assoc])
theorem zmk_fold0 {hit : Nat × Nat → Bool} {sel : Nat × Nat → Nat} {L : List (Nat × Nat)} (h : ∀ q, q ∈ L → sel q < 6) : L.foldl (fun m q => if hit q then m ||| zbit (sel q) else m) 0 = zmk (fun i => L.any (fun q => hit q && i == sel q)) := by
  rw [← zmk_0, zmk_fold L _ h]
  exact zmk_congr (fun i _ => by simp)
/-! who is in the lists -/
theorem zin_mem {C : zA} {i : Nat} {q : Nat × Nat} : ∀ (c o : Nat) (L : List (Nat × Nat)), q ∈ zf (zin C i) c o L ↔ q ∈ L ∨ ∃ o', o ≤ o' ∧ o' < o + c ∧ zcr C i o' = true ∧ (q = (i, o') ∨ q = (o', i)) := by
  intro c
  induction c with
  | zero => intro o L; constructor
            · exact fun h => Or.inl h
            · rintro (h | ⟨o', h1, h2, -⟩)
              · exact h
              · omega
  | succ c ih =>
    intro o L
    show q ∈ zf (zin C i) c (o + 1) (zin C i o L) ↔ _
    rw [ih]
    have hz : q ∈ zin C i o L ↔ q ∈ L ∨ (zcr C i o = true ∧ (q = (i, o) ∨ q = (o, i))) := by
      unfold zin
      cases zcr C i o <;> simp
    rw [hz]
    constructor
    · rintro ((h | h) | ⟨o', h1, h2, h3⟩)
      · exact Or.inl h
      · exact Or.inr ⟨o, Nat.le_refl _, by omega, h⟩
      · exact Or.inr ⟨o', by omega, by omega, h3⟩
    · rintro (h | ⟨o', h1, h2, h3⟩)
      · exact Or.inl (Or.inl h)
      · by_cases ho : o' = o
        · subst ho; exact Or.inl (Or.inr h3)
        · exact Or.inr ⟨o', by omega, by omega, h3⟩
theorem znt_mem {C : zA} (hK : zKn C ≤ 6) {q : Nat × Nat} : q ∈ znt C ↔ zcr C q.1 q.2 = true := by
  have key : ∀ (c i : Nat) (L : List (Nat × Nat)), i + c = 6 → (q ∈ zf (zou C) c i L ↔ q ∈ L ∨ ∃ i' o', i ≤ i' ∧ i' < o' ∧ o' < 6 ∧ zcr C i' o' = true ∧ (q = (i', o') ∨ q = (o', i'))) := by
    intro c
    induction c with
    | zero => intro i L hi; constructor
              · exact fun h => Or.inl h
              · rintro (h | ⟨i', o', h1, h2, h3, -⟩)
                · exact h
                · omega
    | succ c ih =>
      intro i L hi
      show q ∈ zf (zou C) c (i + 1) (zou C i L) ↔ _
      rw [ih (i + 1) _ (by omega), zou_eq, zin_mem]
      constructor
      · rintro ((h | ⟨o', h1, h2, h3⟩) | ⟨i', o', h1, h2⟩)
        · exact Or.inl h
        · exact Or.inr ⟨i, o', Nat.le_refl _, by omega, by omega, h3⟩
        · exact Or.inr ⟨i', o', by omega, h2⟩
      · rintro (h | ⟨i', o', h1, h2, h3, h4⟩)
        · exact Or.inl (Or.inl h)
        · by_cases hi' : i' = i
          · subst hi'; exact Or.inl (Or.inr ⟨o', by omega, by omega, h4⟩)
          · exact Or.inr ⟨i', o', by omega, h2, h3, h4⟩
  have h6 : ∀ k o, zcr C k o = true → k < 6 ∧ o < 6 := fun k o h => by
    rcases Nat.lt_or_ge k (zKn C) with a | a
    · rcases Nat.lt_or_ge o (zKn C) with b | b
      · omega
      · rw [zcr_out (Or.inr b)] at h; cases h
    · rw [zcr_out (Or.inl a)] at h; cases h
  unfold znt
  rw [key 6 0 [] (by omega)]
  constructor
  · rintro (h | ⟨i', o', h1, h2, h3, h4, rfl | rfl⟩)
    · simp at h
    · exact h4
    · show zcr C o' i' = true; rw [zcr_sym]; exact h4
  · intro h
    obtain ⟨a, b⟩ := q
    have hab := h6 _ _ h
    rcases Nat.lt_trichotomy a b with c | c | c
    · exact Or.inr ⟨a, b, by omega, c, hab.2, h, Or.inl rfl⟩
    · subst c; have := zcr_self (C := C) (k := a); rw [this] at h; cases h
    · exact Or.inr ⟨b, a, by omega, c, hab.1, by rw [zcr_sym]; exact h, Or.inr rfl⟩
