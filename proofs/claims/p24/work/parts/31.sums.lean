def zls (f : Nat × Nat → Int32) : List (Nat × Nat) → Int32
  | [] => 0
  | q :: L => f q + zls f L
theorem zls_app {f : Nat × Nat → Int32} {L1 L2 : List (Nat × Nat)} : zls f (L1 ++ L2) = zls f L1 + zls f L2 := by
  induction L1 with
  | nil => show zls f L2 = 0 + zls f L2; rw [Int32.zero_add]
  | cons q L ih => show f q + zls f (L ++ L2) = f q + zls f L + zls f L2; rw [ih, Int32.add_assoc]
theorem zls_congr {f f' : Nat × Nat → Int32} : ∀ {L : List (Nat × Nat)}, (∀ q, q ∈ L → f q = f' q) → zls f L = zls f' L := by
  intro L
  induction L with
  | nil => intro _; rfl
  | cons q L ih => intro h; show f q + zls f L = f' q + zls f' L; rw [h q List.mem_cons_self, ih (fun q hq => h q (List.mem_cons_of_mem _ hq))]
def ztt (C : zA) (f : Nat × Nat → Int32) (k o : Nat) : Int32 := if zcr C k o then f (k, o) else 0
theorem ztt_self {C : zA} {f : Nat × Nat → Int32} {k : Nat} : ztt C f k k = 0 := by unfold ztt; rw [zcr_self]; simp
theorem zls_in {C : zA} {f : Nat × Nat → Int32} {i o : Nat} {L : List (Nat × Nat)} : zls f (zin C i o L) = zls f L + (ztt C f i o + ztt C f o i) := by
  unfold zin ztt
  rw [zcr_sym (k := i) (o := o)]
  cases zcr C i o
  · simp
  · simp only [if_true]
    rw [zls_app]; congr 1
    show f (i, o) + (f (o, i) + 0) = _
    rw [Int32.add_zero]
theorem zou_eq {C : zA} {i : Nat} {L : List (Nat × Nat)} : zou C i L = zf (zin C i) (5 - i) (i + 1) L := by
  unfold zou
  cases h : zfly C i
  · simp only [Bool.false_eq_true, if_false]
    refine (zf_id _ _ _ (fun o _ _ s => ?_)).symm
    unfold zin
    have : zcr C i o = false := by unfold zcr; rw [h]; simp
    rw [this]; simp
  · simp
def zri (C : zA) (k : Nat) : Nat → List (Nat × Nat) → List (Nat × Nat) := fun o L => if zcr C k o then L ++ [(k, o)] else L
def zrl (C : zA) (n : Nat) : List (Nat × Nat) := zf (fun k L => zf (zri C k) n 0 L) n 0 []
def zrj (C : zA) (k : Nat) : Nat → List (Nat × Nat) → List (Nat × Nat) := fun o L => if zcr C o k then L ++ [(o, k)] else L
def zrm (C : zA) (n : Nat) : List (Nat × Nat) := zf (fun k L => zf (zrj C k) n 0 L) n 0 []
theorem zls_ri {C : zA} {f : Nat × Nat → Int32} {k o : Nat} {L : List (Nat × Nat)} : zls f (zri C k o L) = zls f L + ztt C f k o := by
  unfold zri ztt
  cases zcr C k o
  · simp
  · simp only [if_true]; rw [zls_app]; congr 1; show f (k, o) + 0 = _; rw [Int32.add_zero]
theorem zls_rj {C : zA} {f : Nat × Nat → Int32} {k o : Nat} {L : List (Nat × Nat)} : zls f (zrj C k o L) = zls f L + ztt C f o k := by
  unfold zrj ztt
  cases zcr C o k
  · simp
  · simp only [if_true]; rw [zls_app]; congr 1; show f (o, k) + 0 = _; rw [Int32.add_zero]
set_option maxHeartbeats 4000000 in
theorem zls_rl {C : zA} {f : Nat × Nat → Int32} : zls f (zrl C 6) = zls f (znt C) := by
  unfold zrl znt
  simp only [zf, zou_eq, zls_ri, zls_in, zls, ztt_self, Nat.zero_add, Nat.reduceAdd, Nat.reduceSub, Int32.add_zero, Int32.zero_add]
  ac_rfl
set_option maxHeartbeats 4000000 in
theorem zls_rm {C : zA} {f : Nat × Nat → Int32} : zls f (zrm C 6) = zls f (znt C) := by
  unfold zrm znt
  simp only [zf, zou_eq, zls_rj, zls_in, zls, ztt_self, Nat.zero_add, Nat.reduceAdd, Nat.reduceSub, Int32.add_zero, Int32.zero_add]
  ac_rfl
def zct (C : zA) (k p : Nat) (q : Nat × Nat) : Int32 := if q.1 = k ∧ p = 12 + zpl C q.1 q.2 then zrb C q.1 q.2 else 0
theorem zad_val {C : zA} {k p : Nat} : ∀ (L : List (Nat × Nat)) (A : zA), L.foldl (zad C) A k p = A k p + zls (zct C k p) L := by
  intro L
  induction L with
  | nil => intro A; show A k p = A k p + 0; rw [Int32.add_zero]
  | cons q L ih =>
    intro A
    rw [List.foldl_cons, ih]
    show _ = A k p + (zct C k p q + zls (zct C k p) L)
    rw [← Int32.add_assoc]
    congr 1
    unfold zad zct zp
    by_cases h : k = q.1 ∧ p = 12 + zpl C q.1 q.2
    · rw [if_pos h, if_pos ⟨h.1.symm, h.2⟩]
      obtain ⟨h1, h2⟩ := h
      rw [h1, h2]
    · rw [if_neg h, if_neg (fun q2 => h ⟨q2.1.symm, q2.2⟩), Int32.add_zero]
theorem zria_list {C : zA} {k : Nat} {A0 : zA} : ∀ (c o : Nat) (L : List (Nat × Nat)), zf (zria C k) c o (L.foldl (zad C) A0) = (zf (zri C k) c o L).foldl (zad C) A0 := by
  intro c
  induction c with
  | zero => intro o L; rfl
  | succ c ih =>
    intro o L
    show zf (zria C k) c (o + 1) (zria C k o (L.foldl (zad C) A0)) = (zf (zri C k) c (o + 1) (zri C k o L)).foldl (zad C) A0
    rw [← ih]
    congr 1
    unfold zria zri
    cases zcr C k o
    · simp
    · simp only [if_true]; rw [List.foldl_append]; rfl
theorem zroa_list {C : zA} {n : Nat} {A0 : zA} : ∀ (c i : Nat) (L : List (Nat × Nat)), zf (zroa C n) c i (L.foldl (zad C) A0) = (zf (fun k L => zf (zri C k) n 0 L) c i L).foldl (zad C) A0 := by
  intro c
  induction c with
  | zero => intro i L; rfl
  | succ c ih =>
    intro i L
    show zf (zroa C n) c (i + 1) (zf (zria C i) n 0 (L.foldl (zad C) A0)) = _
    rw [zria_list, ih]
    rfl
theorem zcr_out {C : zA} {k o : Nat} (h : zKn C ≤ k ∨ zKn C ≤ o) : zcr C k o = false := by
  unfold zcr zfly
  rcases h with h | h
  · simp [show ¬ k < zKn C by omega]
  · simp [show ¬ o < zKn C by omega]
theorem zrl_cut {C : zA} (h : zKn C ≤ 6) : zrl C (zKn C) = zrl C 6 := by
  unfold zrl
  rw [zf_cut h]
  · refine zf_congr _ _ _ (fun k _ _ L => ?_)
    refine (zf_cut h L (fun o h1 _ s => ?_)).symm
    unfold zri; rw [zcr_out (Or.inr h1)]; simp
  · intro k h1 _ L
    refine zf_id _ _ _ (fun o _ _ s => ?_)
    unfold zri; rw [zcr_out (Or.inl h1)]; simp
theorem zrm_cut {C : zA} (h : zKn C ≤ 6) : zrm C (zKn C) = zrm C 6 := by
  unfold zrm
  rw [zf_cut h]
  · refine zf_congr _ _ _ (fun k _ _ L => ?_)
    refine (zf_cut h L (fun o h1 _ s => ?_)).symm
    unfold zrj; rw [zcr_out (Or.inl h1)]; simp
  · intro k h1 _ L
    refine zf_id _ _ _ (fun o _ _ s => ?_)
    unfold zrj; rw [zcr_out (Or.inr h1)]; simp
theorem zW_eq {C : zA} (h : zKn C ≤ 6) : zf (zroa C (zKn C)) (zKn C) 0 C = (znt C).foldl (zad C) C := by
  have e := zroa_list (C := C) (n := zKn C) (A0 := C) (zKn C) 0 []
  have e' : zf (zroa C (zKn C)) (zKn C) 0 C = (zrl C (zKn C)).foldl (zad C) C := e
  rw [e', zrl_cut h]
  funext k p
  rw [zad_val, zad_val, zls_rl]
def zmk (P : Nat → Bool) : Int32 := zf (fun k m => if P k then m ||| zbit k else m) 6 0 0
def zm6 (b0 b1 b2 b3 b4 b5 : Bool) : Int32 :=
  let m0 := if b0 then (0 : Int32) ||| zbit 0 else 0
  let m1 := if b1 then m0 ||| zbit 1 else m0
  let m2 := if b2 then m1 ||| zbit 2 else m1
  let m3 := if b3 then m2 ||| zbit 3 else m2
  let m4 := if b4 then m3 ||| zbit 4 else m3
  if b5 then m4 ||| zbit 5 else m4
theorem zmk_6 {P : Nat → Bool} : zmk P = zm6 (P 0) (P 1) (P 2) (P 3) (P 4) (P 5) := rfl
theorem zmk_congr {P P' : Nat → Bool} (h : ∀ k, k < 6 → P k = P' k) : zmk P = zmk P' := by
  rw [zmk_6, zmk_6, h 0 (by omega), h 1 (by omega), h 2 (by omega), h 3 (by omega), h 4 (by omega), h 5 (by omega)]
theorem zm6_or : ∀ (b0 b1 b2 b3 b4 b5 : Bool) (k : Fin 6), zm6 b0 b1 b2 b3 b4 b5 ||| zbit k.val = zm6 (b0 || (0 == k.val)) (b1 || (1 == k.val)) (b2 || (2 == k.val)) (b3 || (3 == k.val)) (b4 || (4 == k.val)) (b5 || (5 == k.val)) := by decide +kernel
theorem zmk_or {P : Nat → Bool} {k : Nat} (hk : k < 6) : zmk P ||| zbit k = zmk (fun i => P i || i == k) := by
  rw [zmk_6, zmk_6]; exact zm6_or _ _ _ _ _ _ ⟨k, hk⟩
theorem zm6_bq : ∀ (b0 b1 b2 b3 b4 b5 : Bool), zbq (zm6 b0 b1 b2 b3 b4 b5) 0 = b0 ∧ zbq (zm6 b0 b1 b2 b3 b4 b5) 1 = b1 ∧ zbq (zm6 b0 b1 b2 b3 b4 b5) 2 = b2 ∧ zbq (zm6 b0 b1 b2 b3 b4 b5) 3 = b3 ∧ zbq (zm6 b0 b1 b2 b3 b4 b5) 4 = b4 ∧ zbq (zm6 b0 b1 b2 b3 b4 b5) 5 = b5 := by decide +kernel
theorem zmk_bq {P : Nat → Bool} {k : Nat} (hk : k < 6) : zbq (zmk P) k = P k := by
  have h := zm6_bq (P 0) (P 1) (P 2) (P 3) (P 4) (P 5)
  rw [zmk_6]
  obtain ⟨h0, h1, h2, h3, h4, h5⟩ := h
  obtain rfl | rfl | rfl | rfl | rfl | rfl : k = 0 ∨ k = 1 ∨ k = 2 ∨ k = 3 ∨ k = 4 ∨ k = 5 := by omega
  · exact h0
  · exact h1
  · exact h2
  · exact h3
  · exact h4
  · exact h5
theorem zmk_0 : zmk (fun _ => false) = 0 := by decide +kernel
theorem zmk_fold {hit : Nat × Nat → Bool} {sel : Nat × Nat → Nat} : ∀ (L : List (Nat × Nat)) (P : Nat → Bool), (∀ q, q ∈ L → sel q < 6) → L.foldl (fun m q => if hit q then m ||| zbit (sel q) else m) (zmk P) = zmk (fun i => P i || L.any (fun q => hit q && i == sel q)) := by
  intro L
  induction L with
  | nil => intro P _; simp
  | cons q L ih =>
    intro P h
    rw [List.foldl_cons]
    cases hq : hit q
    · simp only [Bool.false_eq_true, if_false]
      rw [ih P (fun q hq => h q (List.mem_cons_of_mem _ hq))]
      exact zmk_congr (fun i _ => by simp [List.any_cons, hq])
    · simp only [if_true]
      rw [zmk_or (h q List.mem_cons_self), ih _ (fun q hq => h q (List.mem_cons_of_mem _ hq))]
      exact zmk_congr (fun i _ => by simp [List.any_cons, hq, Bool.or_assoc])
theorem zmk_fold0 {hit : Nat × Nat → Bool} {sel : Nat × Nat → Nat} {L : List (Nat × Nat)} (h : ∀ q, q ∈ L → sel q < 6) : L.foldl (fun m q => if hit q then m ||| zbit (sel q) else m) 0 = zmk (fun i => L.any (fun q => hit q && i == sel q)) := by
  rw [← zmk_0, zmk_fold L _ h]
  exact zmk_congr (fun i _ => by simp)
theorem zin_mem {C : zA} {i : Nat} {q : Nat × Nat} : ∀ (c o : Nat) (L : List (Nat × Nat)), q ∈ zf (zin C i) c o L ↔ q ∈ L ∨ ∃ o', o ≤ o' ∧ o' < o + c ∧ zcr C i o' = true ∧ (q = (i, o') ∨ q = (o', i)) := by
  intro c
  induction c with
  | zero => intro o L; constructor
            · exact fun h => Or.inl h
            · rintro (h | ⟨o', h1, h2, -⟩)
              · exact h
              · omega
  | succ c ih =>
    intro o L
    show q ∈ zf (zin C i) c (o + 1) (zin C i o L) ↔ _
    rw [ih]
    have hz : q ∈ zin C i o L ↔ q ∈ L ∨ (zcr C i o = true ∧ (q = (i, o) ∨ q = (o, i))) := by
      unfold zin
      cases zcr C i o <;> simp
    rw [hz]
    constructor
    · rintro ((h | h) | ⟨o', h1, h2, h3⟩)
      · exact Or.inl h
      · exact Or.inr ⟨o, Nat.le_refl _, by omega, h⟩
      · exact Or.inr ⟨o', by omega, by omega, h3⟩
    · rintro (h | ⟨o', h1, h2, h3⟩)
      · exact Or.inl (Or.inl h)
      · by_cases ho : o' = o
        · subst ho; exact Or.inl (Or.inr h3)
        · exact Or.inr ⟨o', by omega, by omega, h3⟩
theorem znt_mem {C : zA} (hK : zKn C ≤ 6) {q : Nat × Nat} : q ∈ znt C ↔ zcr C q.1 q.2 = true := by
  have key : ∀ (c i : Nat) (L : List (Nat × Nat)), i + c = 6 → (q ∈ zf (zou C) c i L ↔ q ∈ L ∨ ∃ i' o', i ≤ i' ∧ i' < o' ∧ o' < 6 ∧ zcr C i' o' = true ∧ (q = (i', o') ∨ q = (o', i'))) := by
    intro c
    induction c with
    | zero => intro i L hi; constructor
              · exact fun h => Or.inl h
              · rintro (h | ⟨i', o', h1, h2, h3, -⟩)
                · exact h
                · omega
    | succ c ih =>
      intro i L hi
      show q ∈ zf (zou C) c (i + 1) (zou C i L) ↔ _
      rw [ih (i + 1) _ (by omega), zou_eq, zin_mem]
      constructor
      · rintro ((h | ⟨o', h1, h2, h3⟩) | ⟨i', o', h1, h2⟩)
        · exact Or.inl h
        · exact Or.inr ⟨i, o', Nat.le_refl _, by omega, by omega, h3⟩
        · exact Or.inr ⟨i', o', by omega, h2⟩
      · rintro (h | ⟨i', o', h1, h2, h3, h4⟩)
        · exact Or.inl (Or.inl h)
        · by_cases hi' : i' = i
          · subst hi'; exact Or.inl (Or.inr ⟨o', by omega, by omega, h4⟩)
          · exact Or.inr ⟨i', o', by omega, h2, h3, h4⟩
  have h6 : ∀ k o, zcr C k o = true → k < 6 ∧ o < 6 := fun k o h => by
    rcases Nat.lt_or_ge k (zKn C) with a | a
    · rcases Nat.lt_or_ge o (zKn C) with b | b
      · omega
      · rw [zcr_out (Or.inr b)] at h; cases h
    · rw [zcr_out (Or.inl a)] at h; cases h
  unfold znt
  rw [key 6 0 [] (by omega)]
  constructor
  · rintro (h | ⟨i', o', h1, h2, h3, h4, rfl | rfl⟩)
    · simp at h
    · exact h4
    · show zcr C o' i' = true; rw [zcr_sym]; exact h4
  · intro h
    obtain ⟨a, b⟩ := q
    have hab := h6 _ _ h
    rcases Nat.lt_trichotomy a b with c | c | c
    · exact Or.inr ⟨a, b, by omega, c, hab.2, h, Or.inl rfl⟩
    · subst c; have := zcr_self (C := C) (k := a); rw [this] at h; cases h
    · exact Or.inr ⟨b, a, by omega, c, hab.1, by rw [zcr_sym]; exact h, Or.inr rfl⟩

def zo7 (W A : zA) : Prop := ∀ k p, p ≠ 7 → A k p = W k p
theorem zo7.refl {W : zA} : zo7 W W := fun _ _ _ => rfl
theorem zo7.ht {C W A : zA} (h : zo7 W A) (k o : Nat) : zht C A k o = zht C W k o := by
  unfold zht; rw [h k 6 (by omega), h k (12 + zpl C k o) (by omega)]
theorem zpt_o7 {C W : zA} {s : zA × Int32 × Int32} {q : Nat × Nat} (h : zo7 W s.1) : zo7 W (zpt C s q).1 := by
  unfold zpt; split
  · exact fun k p hp => by show zp s.1 q.2 7 _ k p = _; rw [zp_np hp]; exact h k p hp
  · exact h
theorem zpt_val {C W : zA} : ∀ (L : List (Nat × Nat)) (s : zA × Int32 × Int32), zo7 W s.1 →
    zo7 W (L.foldl (zpt C) s).1 ∧ (∀ k, (L.foldl (zpt C) s).1 k 7 = s.1 k 7 + zls (fun q => if zht C W q.1 q.2 && k == q.2 then 1 else 0) L) ∧ (L.foldl (zpt C) s).2.1 = L.foldl (fun m q => if zht C W q.1 q.2 then m ||| zbit q.1 else m) s.2.1 ∧ (L.foldl (zpt C) s).2.2 = L.foldl (fun m q => if zht C W q.1 q.2 then m ||| zbit q.2 else m) s.2.2 := by
  intro L
  induction L with
  | nil => intro s h; exact ⟨h, fun k => by show s.1 k 7 = s.1 k 7 + 0; rw [Int32.add_zero], rfl, rfl⟩
  | cons q L ih =>
    intro s h
    obtain ⟨h1, h2, h3, h4⟩ := ih (zpt C s q) (zpt_o7 h)
    rw [List.foldl_cons]
    refine ⟨h1, fun k => ?_, ?_, ?_⟩
    · rw [h2 k]
      show _ = s.1 k 7 + ((if zht C W q.1 q.2 && k == q.2 then 1 else 0) + zls (fun q => if zht C W q.1 q.2 && k == q.2 then 1 else 0) L)
      rw [← Int32.add_assoc]
      congr 1
      unfold zpt
      rw [h.ht]
      cases zht C W q.1 q.2
      · simp
      · simp only [if_true, Bool.true_and, beq_iff_eq]
        by_cases hk : k = q.2
        · subst hk; rw [zp_at, if_pos rfl]
        · rw [zp_nk hk, if_neg hk, Int32.add_zero]
    · rw [h3, List.foldl_cons]
      congr 1
      unfold zpt; rw [h.ht]
      cases zht C W q.1 q.2 <;> simp
    · rw [h4, List.foldl_cons]
      congr 1
      unfold zpt; rw [h.ht]
      cases zht C W q.1 q.2 <;> simp
def zps (C : zA) (s : zA × Int32) (q : Nat × Nat) : zA × Int32 := if zht C s.1 q.1 q.2 then (zp s.1 q.2 7 (s.1 q.2 7 + 1), s.2 ||| zbit q.2) else s
theorem zps_pt {C : zA} : ∀ (L : List (Nat × Nat)) (s : zA × Int32) (m : Int32), L.foldl (zps C) s = ((L.foldl (zpt C) (s.1, m, s.2)).1, (L.foldl (zpt C) (s.1, m, s.2)).2.2) := by
  intro L
  induction L with
  | nil => intro s m; rfl
  | cons q L ih =>
    intro s m
    rw [List.foldl_cons, List.foldl_cons]
    unfold zps zpt
    dsimp only
    cases zht C s.1 q.1 q.2
    · simp only [Bool.false_eq_true, if_false]; exact ih s m
    · simp only [if_true]; exact ih _ _
theorem zps_one {C W : zA} {s : zA × Int32} {q : Nat × Nat} (h : zo7 W s.1) : zps C s q = if zht C W q.1 q.2 then (zp s.1 q.2 7 (s.1 q.2 7 + 1), s.2 ||| zbit q.2) else s := by unfold zps; rw [h.ht]
theorem zq2_list {C W : zA} {P : Nat → Bool} {k : Nat} (hP : ∀ o, o < 6 → zcr C o k = true → zht C W o k = true → P o = true) : ∀ (c o : Nat) (L : List (Nat × Nat)) (g : Int32), o + c ≤ 6 → zf (zq2 C (zmk P) k) c o (L.foldl (zps C) (W, g)) = (zf (zrj C k) c o L).foldl (zps C) (W, g) := by
  intro c
  induction c with
  | zero => intro o L g _; rfl
  | succ c ih =>
    intro o L g ho
    show zf (zq2 C (zmk P) k) c (o + 1) (zq2 C (zmk P) k o (L.foldl (zps C) (W, g))) = (zf (zrj C k) c (o + 1) (zrj C k o L)).foldl (zps C) (W, g)
    rw [← ih (o + 1) _ g (by omega)]
    congr 1
    have h7 : zo7 W (L.foldl (zps C) (W, g)).1 := by rw [zps_pt L (W, g) 0]; exact (zpt_val L (W, 0, g) zo7.refl).1
    unfold zq2 zrj
    rw [h7.ht, zmk_bq (by omega)]
    cases hc : zcr C o k
    · simp
    · cases hh : zht C W o k
      · simp only [Bool.and_false, Bool.false_eq_true, if_false, if_true]
        rw [List.foldl_append]
        show _ = zps C (L.foldl (zps C) (W, g)) (o, k)
        rw [zps_one h7]; dsimp only; rw [hh]; simp
      · rw [hP o (by omega) hc hh]
        simp only [Bool.and_true, if_true]
        rw [List.foldl_append]
        show _ = zps C (L.foldl (zps C) (W, g)) (o, k)
        rw [zps_one h7]; dsimp only; rw [hh]; simp
theorem zq3_list {C W : zA} {P : Nat → Bool} {K : Nat} (hK : K ≤ 6) (hP : ∀ k o, k < 6 → o < 6 → zcr C o k = true → zht C W o k = true → P o = true) : ∀ (c i : Nat) (L : List (Nat × Nat)) (g : Int32), i + c ≤ K → zf (zq3 C (zmk P) K) c i (L.foldl (zps C) (W, g)) = (zf (fun k L => zf (zrj C k) K 0 L) c i L).foldl (zps C) (W, g) := by
  intro c
  induction c with
  | zero => intro i L g _; rfl
  | succ c ih =>
    intro i L g hi
    show zf (zq3 C (zmk P) K) c (i + 1) (zf (zq2 C (zmk P) i) K 0 (L.foldl (zps C) (W, g))) = _
    rw [zq2_list (fun o ho => hP i o (by omega) ho) K 0 L g (by omega), ih (i + 1) _ g (by omega)]
    rfl
theorem zrj_mem {C : zA} {k : Nat} {q : Nat × Nat} : ∀ (c o : Nat) (L : List (Nat × Nat)), q ∈ zf (zrj C k) c o L ↔ q ∈ L ∨ ∃ o', o ≤ o' ∧ o' < o + c ∧ zcr C o' k = true ∧ q = (o', k) := by
  intro c
  induction c with
  | zero =>
    intro o L; constructor
    · exact fun h => Or.inl h
    · rintro (h | ⟨o', h1, h2, -⟩)
      · exact h
      · omega
  | succ c ih =>
    intro o L
    show q ∈ zf (zrj C k) c (o + 1) (zrj C k o L) ↔ _
    rw [ih]
    have hz : q ∈ zrj C k o L ↔ q ∈ L ∨ (zcr C o k = true ∧ q = (o, k)) := by
      unfold zrj
      cases zcr C o k <;> simp
    rw [hz]
    constructor
    · rintro ((h | h) | ⟨o', h1, h2, h3⟩)
      · exact Or.inl h
      · exact Or.inr ⟨o, Nat.le_refl _, by omega, h⟩
      · exact Or.inr ⟨o', by omega, by omega, h3⟩
    · rintro (h | ⟨o', h1, h2, h3⟩)
      · exact Or.inl (Or.inl h)
      · by_cases ho : o' = o
        · subst ho; exact Or.inl (Or.inr h3)
        · exact Or.inr ⟨o', by omega, by omega, h3⟩
theorem zcr_6 {C : zA} (hK : zKn C ≤ 6) {k o : Nat} (h : zcr C k o = true) : k < zKn C ∧ o < zKn C ∧ k < 6 ∧ o < 6 := by
  rcases Nat.lt_or_ge k (zKn C) with a | a
  · rcases Nat.lt_or_ge o (zKn C) with b | b
    · exact ⟨a, b, by omega, by omega⟩
    · rw [zcr_out (Or.inr b)] at h; cases h
  · rw [zcr_out (Or.inl a)] at h; cases h
theorem zrm_mem {C : zA} (hK : zKn C ≤ 6) {q : Nat × Nat} : q ∈ zrm C 6 ↔ zcr C q.1 q.2 = true := by
  have key : ∀ (c i : Nat) (L : List (Nat × Nat)), i + c = 6 → (q ∈ zf (fun k L => zf (zrj C k) 6 0 L) c i L ↔ q ∈ L ∨ ∃ i' o', i ≤ i' ∧ i' < 6 ∧ o' < 6 ∧ zcr C o' i' = true ∧ q = (o', i')) := by
    intro c
    induction c with
    | zero =>
      intro i L hi; constructor
      · exact fun h => Or.inl h
      · rintro (h | ⟨i', o', h1, h2, -⟩)
        · exact h
        · omega
    | succ c ih =>
      intro i L hi
      show q ∈ zf (fun k L => zf (zrj C k) 6 0 L) c (i + 1) (zf (zrj C i) 6 0 L) ↔ _
      rw [ih (i + 1) _ (by omega), zrj_mem]
      constructor
      · rintro ((h | ⟨o', h1, h2, h3, h4⟩) | ⟨i', o', h1, h2⟩)
        · exact Or.inl h
        · exact Or.inr ⟨i, o', Nat.le_refl _, by omega, by omega, h3, h4⟩
        · exact Or.inr ⟨i', o', by omega, h2⟩
      · rintro (h | ⟨i', o', h1, h2, h3, h4, h5⟩)
        · exact Or.inl (Or.inl h)
        · by_cases hi' : i' = i
          · subst hi'; exact Or.inl (Or.inr ⟨o', by omega, by omega, h4, h5⟩)
          · exact Or.inr ⟨i', o', by omega, h2, h3, h4, h5⟩
  unfold zrm
  rw [key 6 0 [] (by omega)]
  constructor
  · rintro (h | ⟨i', o', h1, h2, h3, h4, rfl⟩)
    · simp at h
    · exact h4
  · intro h
    have h6 := zcr_6 hK h
    exact Or.inr ⟨q.2, q.1, by omega, h6.2.2.2, h6.2.2.1, h, rfl⟩
theorem zany_eq {L L' : List (Nat × Nat)} {f : Nat × Nat → Bool} (h : ∀ q, q ∈ L ↔ q ∈ L') : L.any f = L'.any f := by
  rw [Bool.eq_iff_iff, List.any_eq_true, List.any_eq_true]
  constructor
  · rintro ⟨q, h1, h2⟩; exact ⟨q, (h q).mp h1, h2⟩
  · rintro ⟨q, h1, h2⟩; exact ⟨q, (h q).mpr h1, h2⟩
theorem zgw_ge {A : zA} {k : Nat} : ∀ (c p : Nat) (m : Int32), m.toInt ≤ (zf (fun p m => if A k (12 + p) ≤ m then m else A k (12 + p)) c p m).toInt ∧ ∀ q, p ≤ q → q < p + c → (A k (12 + q)).toInt ≤ (zf (fun p m => if A k (12 + p) ≤ m then m else A k (12 + p)) c p m).toInt := by
  intro c
  induction c with
  | zero => intro p m; exact ⟨Int.le_refl _, fun q h1 h2 => by omega⟩
  | succ c ih =>
    intro p m
    show m.toInt ≤ (zf _ c (p + 1) (if A k (12 + p) ≤ m then m else A k (12 + p))).toInt ∧ ∀ q, p ≤ q → q < p + (c + 1) → (A k (12 + q)).toInt ≤ (zf _ c (p + 1) (if A k (12 + p) ≤ m then m else A k (12 + p))).toInt
    obtain ⟨h1, h2⟩ := ih (p + 1) (if A k (12 + p) ≤ m then m else A k (12 + p))
    have h3 : m.toInt ≤ (if A k (12 + p) ≤ m then m else A k (12 + p)).toInt ∧ (A k (12 + p)).toInt ≤ (if A k (12 + p) ≤ m then m else A k (12 + p)).toInt := by
      by_cases hc : A k (12 + p) ≤ m
      · rw [if_pos hc]; rw [zle_i] at hc; omega
      · rw [if_neg hc]; rw [zle_i] at hc; omega
    refine ⟨by omega, fun q h4 h5 => ?_⟩
    by_cases hq : q = p
    · subst hq; omega
    · exact h2 q (by omega) (by omega)
theorem zgw_is {A : zA} {k : Nat} : ∀ (c p : Nat) (m : Int32), zf (fun p m => if A k (12 + p) ≤ m then m else A k (12 + p)) c p m = m ∨ ∃ q, p ≤ q ∧ q < p + c ∧ zf (fun p m => if A k (12 + p) ≤ m then m else A k (12 + p)) c p m = A k (12 + q) := by
  intro c
  induction c with
  | zero => intro p m; exact Or.inl rfl
  | succ c ih =>
    intro p m
    show zf _ c (p + 1) (if A k (12 + p) ≤ m then m else A k (12 + p)) = m ∨ ∃ q, p ≤ q ∧ q < p + (c + 1) ∧ zf _ c (p + 1) (if A k (12 + p) ≤ m then m else A k (12 + p)) = A k (12 + q)
    rcases ih (p + 1) (if A k (12 + p) ≤ m then m else A k (12 + p)) with h | ⟨q, h1, h2, h3⟩
    · rw [h]
      by_cases hc : A k (12 + p) ≤ m
      · rw [if_pos hc]; exact Or.inl rfl
      · rw [if_neg hc]; exact Or.inr ⟨p, Nat.le_refl _, by omega, rfl⟩
    · exact Or.inr ⟨q, by omega, by omega, h3⟩
theorem zgw_iff {A : zA} {k : Nat} {t : Int} (ht : 0 < t) : t ≤ (zgw A k).toInt ↔ ∃ q, q < 32 ∧ t ≤ (A k (12 + q)).toInt := by
  constructor
  · intro h
    rcases zgw_is (A := A) (k := k) 32 0 0 with e | ⟨q, h1, h2, e⟩
    · have : zgw A k = 0 := e
      rw [this, Int32_0] at h; omega
    · have : zgw A k = A k (12 + q) := e
      exact ⟨q, by omega, by rw [← this]; exact h⟩
  · rintro ⟨q, h1, h2⟩
    have := (zgw_ge (A := A) (k := k) 32 0 0).2 q (by omega) (by omega)
    have e : zgw A k = zf (fun p m => if A k (12 + p) ≤ m then m else A k (12 + p)) 32 0 0 := rfl
    rw [e]; omega
theorem zls_zero {f : Nat × Nat → Int32} : ∀ {L : List (Nat × Nat)}, (∀ q, q ∈ L → f q = 0) → zls f L = 0 := by
  intro L
  induction L with
  | nil => intro _; rfl
  | cons q L ih => intro h; show f q + zls f L = 0; rw [h q List.mem_cons_self, ih (fun q hq => h q (List.mem_cons_of_mem _ hq)), Int32.add_zero]
def zWC (C : zA) : zA := (znt C).foldl (zad C) C
def zcutP (C : zA) (k : Nat) : Bool := (znt C).any (fun q => zht C (zWC C) q.1 q.2 && k == q.1)
def zgotP (C : zA) (k : Nat) : Bool := (znt C).any (fun q => zht C (zWC C) q.1 q.2 && k == q.2)
theorem zWC_lo {C : zA} {k p : Nat} (hp : p < 12) : zWC C k p = C k p := by
  unfold zWC; rw [zad_val, zls_zero, Int32.add_zero]
  intro q _; unfold zct; rw [if_neg (by omega)]
theorem zWC_hi {C : zA} (hK : zKn C ≤ 6) {k p : Nat} (hk : 6 ≤ k) : zWC C k p = C k p := by
  unfold zWC; rw [zad_val, zls_zero, Int32.add_zero]
  intro q hq; unfold zct; rw [if_neg]
  rintro ⟨h1, -⟩
  have := (zcr_6 hK ((znt_mem hK).mp hq)).2.2.1
  omega
theorem zWC_sa {C : zA} (hK : zKn C ≤ 6) : zsa C (zWC C) := by
  intro k p h
  rcases h with ⟨h1, h2, h3⟩ | ⟨h1, h2⟩
  · exact zWC_lo h2
  · exact zWC_hi hK (by omega)
theorem zcut_iff {C : zA} (h : zok C) {k : Nat} (hk : k < 6) : zcutP C k = (zfly (zWC C) k && decide ((zWC C k 6).toInt ≤ (zgw (zWC C) k).toInt)) := by
  have hK := h.2.1
  rw [(zWC_sa hK).fly hk, Bool.eq_iff_iff]
  unfold zcutP
  rw [List.any_eq_true, Bool.and_eq_true, decide_eq_true_eq]
  constructor
  · rintro ⟨q, hq, h2⟩
    rw [Bool.and_eq_true, beq_iff_eq] at h2
    obtain ⟨h2, rfl⟩ := h2
    have hcr := (znt_mem hK).mp hq
    have hf : zfly C q.1 = true := by
      unfold zcr at hcr; simp only [Bool.and_eq_true] at hcr; exact hcr.1.1
    refine ⟨hf, ?_⟩
    have h3 : (zWC C q.1 6).toInt ≤ (zWC C q.1 (12 + zpl C q.1 q.2)).toInt := of_decide_eq_true h2
    have hs : 0 < (zWC C q.1 6).toInt := by
      rw [zWC_lo (by omega)]
      have := (h.2.2 q.1 (zfly_lt hf).1).2.2.2.2.2.2.1
      omega
    exact (zgw_iff hs).mpr ⟨_, zpl_lt hcr, h3⟩
  · rintro ⟨hf, h2⟩
    have hkite := h.2.2 k (zfly_lt hf).1
    have hs : 0 < (zWC C k 6).toInt := by
      rw [zWC_lo (by omega)]
      have := hkite.2.2.2.2.2.2.1
      omega
    obtain ⟨p, hp, h3⟩ := (zgw_iff hs).mp h2
    have hlt : (C k (12 + p)).toInt < (C k 6).toInt := hkite.2.2.2.2.2.2.2.2.2.2.2.2 (zfly_lt hf).2 p hp
    rw [zWC_lo (show 6 < 12 by omega)] at h3
    by_cases hex : ∃ q, q ∈ znt C ∧ q.1 = k ∧ 12 + p = 12 + zpl C q.1 q.2
    · obtain ⟨q, hq, rfl, h5⟩ := hex
      refine ⟨q, hq, ?_⟩
      rw [Bool.and_eq_true, beq_self_eq_true]
      refine ⟨decide_eq_true ?_, rfl⟩
      rw [← h5, zWC_lo (show 6 < 12 by omega)]; exact h3
    · exfalso
      have : zWC C k (12 + p) = C k (12 + p) := by
        unfold zWC; rw [zad_val, zls_zero, Int32.add_zero]
        intro q hq; unfold zct; rw [if_neg (fun hc => hex ⟨q, hq, hc⟩)]
      rw [this] at h3; omega

