/-! points for who cuts, as the law gives them: kite by kite that is cut -/
def zcu1 (k : Nat) (A : zA) : zA := zp (zp A k 8 1) 6 3 (A 6 3 + 1)
theorem zcu_1 {m : Int32} {k : Nat} {A : zA} : zcu m k A = if zbq m k = true then zcu1 k A else A := rfl
def zcq (C : zA) (k : Nat) : Nat → zA × Int32 → zA × Int32 := fun o s => if zcr C k o && zht C s.1 k o then (zp s.1 o 7 (s.1 o 7 + 1), s.2 ||| zbit o) else s
def zpq (C : zA) (m : Int32) (K : Nat) : Nat → zA × Int32 → zA × Int32 := fun k s => if zbq m k = true then zf (zcq C k) K 0 (zcu1 k s.1, s.2) else s
theorem zcu1_ht {C A : zA} {k k' o : Nat} (hk : k' < 6) : zht C (zcu1 k A) k' o = zht C A k' o := by
  unfold zht zcu1
  rw [zp_nk (by omega), zp_np (by omega), zp_nk (by omega), zp_np (by omega)]
theorem zcu1_7 {A : zA} {k o : Nat} {v : Int32} : zcu1 k (zp A o 7 v) = zp (zcu1 k A) o 7 v := by
  unfold zcu1
  funext k' p'
  simp only [zp]
  by_cases a : k' = 6 ∧ p' = 3
  · rw [if_pos a, if_neg (show ¬ (k' = o ∧ p' = 7) by omega), if_pos a, if_neg (show ¬ (6 = o ∧ 3 = 7) by omega)]
  · rw [if_neg a, if_neg a]
    by_cases c : k' = k ∧ p' = 8
    · rw [if_pos c, if_neg (show ¬ (k' = o ∧ p' = 7) by omega), if_pos c]
    · rw [if_neg c, if_neg c]
theorem zcq_cu {C A : zA} {k k' o : Nat} {g : Int32} (hk : k < 6) : zcq C k o (zcu1 k' A, g) = (zcu1 k' (zcq C k o (A, g)).1, (zcq C k o (A, g)).2) := by
  unfold zcq
  simp only [zcu1_ht hk]
  cases zcr C k o && zht C A k o
  · rfl
  · simp only [if_true]
    rw [zcu1_7]
    have e : zcu1 k' A o 7 = A o 7 := by unfold zcu1; rw [zp_np (by omega), zp_np (by omega)]
    rw [e]
theorem zcqs_cu {C : zA} {k k' : Nat} (hk : k < 6) : ∀ (c o : Nat) (A : zA) (g : Int32), zf (zcq C k) c o (zcu1 k' A, g) = (zcu1 k' (zf (zcq C k) c o (A, g)).1, (zf (zcq C k) c o (A, g)).2) := by
  intro c
  induction c with
  | zero => intro o A g; rfl
  | succ c ih =>
    intro o A g
    show zf (zcq C k) c (o + 1) (zcq C k o (zcu1 k' A, g)) = (zcu1 k' (zf (zcq C k) c (o + 1) (zcq C k o (A, g))).1, (zf (zcq C k) c (o + 1) (zcq C k o (A, g))).2)
    rw [zcq_cu hk]
    exact ih (o + 1) _ _
theorem zcqs_cus {C : zA} {m : Int32} {k : Nat} (hk : k < 6) (A : zA) (g : Int32) {o c : Nat} : ∀ (c' i : Nat) (A : zA) (g : Int32), zf (zcq C k) c o (zf (zcu m) c' i A, g) = (zf (zcu m) c' i (zf (zcq C k) c o (A, g)).1, (zf (zcq C k) c o (A, g)).2) := by
  intro c'
  induction c' with
  | zero => intro i A g; rfl
  | succ c' ih =>
    intro i A g
    show zf (zcq C k) c o (zf (zcu m) c' (i + 1) (zcu m i A), g) = (zf (zcu m) c' (i + 1) (zcu m i (zf (zcq C k) c o (A, g)).1), (zf (zcq C k) c o (A, g)).2)
    rw [ih]
    have e : zf (zcq C k) c o (zcu m i A, g) = (zcu m i (zf (zcq C k) c o (A, g)).1, (zf (zcq C k) c o (A, g)).2) := by
      rw [zcu_1, zcu_1]
      cases zbq m i
      · rfl
      · simp only [if_true]; exact zcqs_cu hk c o A g
    rw [e]
theorem zf_last {σ : Type} {f : Nat → σ → σ} {c i : Nat} {s : σ} : zf f (c + 1) i s = f (i + c) (zf f c i s) := by
  rw [zf_split]; rfl
theorem zcq_ps {C : zA} {k : Nat} {s0 : zA × Int32} : ∀ (c o : Nat) (L : List (Nat × Nat)), zf (zcq C k) c o (L.foldl (zps C) s0) = (zf (zri C k) c o L).foldl (zps C) s0 := by
  intro c
  induction c with
  | zero => intro o L; rfl
  | succ c ih =>
    intro o L
    show zf (zcq C k) c (o + 1) (zcq C k o (L.foldl (zps C) s0)) = (zf (zri C k) c (o + 1) (zri C k o L)).foldl (zps C) s0
    rw [← ih]
    congr 1
    unfold zcq zri
    cases zcr C k o
    · simp
    · simp only [if_true, Bool.true_and]; rw [List.foldl_append]; rfl
theorem zcq_rl {C : zA} {K : Nat} {s0 : zA × Int32} : ∀ (c i : Nat) (L : List (Nat × Nat)), zf (fun k s => zf (zcq C k) K 0 s) c i (L.foldl (zps C) s0) = (zf (fun k L => zf (zri C k) K 0 L) c i L).foldl (zps C) s0 := by
  intro c
  induction c with
  | zero => intro i L; rfl
  | succ c ih =>
    intro i L
    show zf _ c (i + 1) (zf (zcq C i) K 0 (L.foldl (zps C) s0)) = _
    rw [zcq_ps, ih]
    rfl
theorem zri_mem {C : zA} {k : Nat} {q : Nat × Nat} : ∀ (c o : Nat) (L : List (Nat × Nat)), q ∈ zf (zri C k) c o L ↔ q ∈ L ∨ ∃ o', o ≤ o' ∧ o' < o + c ∧ zcr C k o' = true ∧ q = (k, o') := by
  intro c
  induction c with
  | zero =>
    intro o L; constructor
    · exact fun h => Or.inl h
    · rintro (h | ⟨o', h1, h2, -⟩)
      · exact h
      · omega
  | succ c ih =>
    intro o L
    show q ∈ zf (zri C k) c (o + 1) (zri C k o L) ↔ _
    rw [ih]
    have hz : q ∈ zri C k o L ↔ q ∈ L ∨ (zcr C k o = true ∧ q = (k, o)) := by
      unfold zri
      cases zcr C k o <;> simp
    rw [hz]
    constructor
    · rintro ((h | h) | ⟨o', h1, h2, h3⟩)
      · exact Or.inl h
      · exact Or.inr ⟨o, Nat.le_refl _, by omega, h⟩
      · exact Or.inr ⟨o', by omega, by omega, h3⟩
    · rintro (h | ⟨o', h1, h2, h3⟩)
      · exact Or.inl (Or.inl h)
      · by_cases ho : o' = o
        · subst ho; exact Or.inl (Or.inr h3)
        · exact Or.inr ⟨o', by omega, by omega, h3⟩
theorem zrl_mem {C : zA} (hK : zKn C ≤ 6) {q : Nat × Nat} : q ∈ zrl C 6 ↔ zcr C q.1 q.2 = true := by
  have key : ∀ (c i : Nat) (L : List (Nat × Nat)), i + c = 6 → (q ∈ zf (fun k L => zf (zri C k) 6 0 L) c i L ↔ q ∈ L ∨ ∃ i' o', i ≤ i' ∧ i' < 6 ∧ o' < 6 ∧ zcr C i' o' = true ∧ q = (i', o')) := by
    intro c
    induction c with
    | zero =>
      intro i L hi; constructor
      · exact fun h => Or.inl h
      · rintro (h | ⟨i', o', h1, h2, -⟩)
        · exact h
        · omega
    | succ c ih =>
      intro i L hi
      show q ∈ zf (fun k L => zf (zri C k) 6 0 L) c (i + 1) (zf (zri C i) 6 0 L) ↔ _
      rw [ih (i + 1) _ (by omega), zri_mem]
      constructor
      · rintro ((h | ⟨o', h1, h2, h3, h4⟩) | ⟨i', o', h1, h2⟩)
        · exact Or.inl h
        · exact Or.inr ⟨i, o', Nat.le_refl _, by omega, by omega, h3, h4⟩
        · exact Or.inr ⟨i', o', by omega, h2⟩
      · rintro (h | ⟨i', o', h1, h2, h3, h4, h5⟩)
        · exact Or.inl (Or.inl h)
        · by_cases hi' : i' = i
          · subst hi'; exact Or.inl (Or.inr ⟨o', by omega, by omega, h4, h5⟩)
          · exact Or.inr ⟨i', o', by omega, h2, h3, h4, h5⟩
  unfold zrl
  rw [key 6 0 [] (by omega)]
  constructor
  · rintro (h | ⟨i', o', h1, h2, h3, h4, rfl⟩)
    · simp at h
    · exact h4
  · intro h
    have h6 := zcr_6 hK h
    exact Or.inr ⟨q.1, q.2, by omega, h6.2.2.1, h6.2.2.2, h, rfl⟩
/-- all points of a tick -/
theorem zcq_all {C : zA} (h : zok C) : zf (fun k s => zf (zcq C k) (zKn C) 0 s) (zKn C) 0 (zWC C, 0) = (zPA C, zmk (zgotP C)) := by
  have hK := h.2.1
  have e := zcq_rl (C := C) (K := zKn C) (s0 := (zWC C, 0)) (zKn C) 0 []
  have e' : zf (fun k s => zf (zcq C k) (zKn C) 0 s) (zKn C) 0 (zWC C, 0) = (zrl C (zKn C)).foldl (zps C) (zWC C, 0) := e
  rw [e', zrl_cut hK, zps_pt _ _ 0]
  obtain ⟨h1, h2, h3, h4⟩ := zpt_val (C := C) (W := zWC C) (zrl C 6) (zWC C, 0, 0) zo7.refl
  obtain ⟨g1, g2, g3, g4⟩ := zpt_val (C := C) (W := zWC C) (znt C) (zWC C, 0, 0) zo7.refl
  refine Prod.ext ?_ ?_
  · funext k p
    by_cases h7 : p = 7
    · subst h7
      show _ = zPA C k 7
      have : zPA C k 7 = _ := g2 k
      rw [this, h2 k, zls_rl]
    · exact (h1 k p h7).trans (g1 k p h7).symm
  · show _ = zmk (zgotP C)
    rw [h4]
    refine (zmk_fold0 (hit := fun q => zht C (zWC C) q.1 q.2) (sel := fun q => q.2) (fun q hq => (zcr_6 hK ((zrl_mem hK).mp hq)).2.2.2)).trans ?_
    refine zmk_congr (fun i _ => ?_)
    unfold zgotP
    exact zany_eq (fun q => (zrl_mem hK).trans (znt_mem hK).symm)
theorem zcq_o7 {C W : zA} {k o : Nat} {s : zA × Int32} (h : zo7 W s.1) : zo7 W (zcq C k o s).1 := by
  unfold zcq; split
  · exact fun k' p hp => by show zp s.1 o 7 _ k' p = _; rw [zp_np hp]; exact h k' p hp
  · exact h
theorem zcqs_o7 {C W : zA} {k : Nat} (c o : Nat) {s : zA × Int32} (h : zo7 W s.1) : zo7 W (zf (zcq C k) c o s).1 := zf_inv (P := fun s : zA × Int32 => zo7 W s.1) c o s h (fun _ _ _ _ hs => zcq_o7 hs)
theorem zpq_all {C : zA} (h : zok C) : zf (zpq C (zmk (zcutP C)) (zKn C)) (zKn C) 0 (zWC C, 0) = (zX C, zmk (zgotP C)) := by
  have hK := h.2.1
  have key : ∀ i, i ≤ zKn C → zf (zpq C (zmk (zcutP C)) (zKn C)) i 0 (zWC C, 0) = (zf (zcu (zmk (zcutP C))) i 0 (zf (fun k s => zf (zcq C k) (zKn C) 0 s) i 0 (zWC C, 0)).1, (zf (fun k s => zf (zcq C k) (zKn C) 0 s) i 0 (zWC C, 0)).2) ∧ zo7 (zWC C) (zf (fun k s => zf (zcq C k) (zKn C) 0 s) i 0 (zWC C, 0)).1 := by
    intro i
    induction i with
    | zero => intro _; exact ⟨rfl, zo7.refl⟩
    | succ i ih =>
      intro hi
      obtain ⟨e1, e2⟩ := ih (by omega)
      rw [zf_last, e1, zf_last (f := fun k s => zf (zcq C k) (zKn C) 0 s), zf_last (f := zcu (zmk (zcutP C)))]
      rw [Nat.zero_add]
      refine ⟨?_, zcqs_o7 _ _ e2⟩
      generalize zf (fun k s => zf (zcq C k) (zKn C) 0 s) i 0 (zWC C, 0) = s at e2 ⊢
      obtain ⟨B, g⟩ := s
      unfold zpq
      rw [zcu_1, zmk_bq (show i < 6 by omega)]
      cases hc : zcutP C i
      · simp only [Bool.false_eq_true, if_false]
        have e3 : zf (zcq C i) (zKn C) 0 (B, g) = (B, g) := by
          have := zf_inv (f := zcq C i) (P := fun s => s = (B, g)) (zKn C) 0 (B, g) rfl (fun o _ ho s hs => by
            show zcq C i o s = (B, g)
            rw [hs]
            unfold zcq
            rw [if_neg]
            intro hh
            rw [Bool.and_eq_true, e2.ht] at hh
            have : zcutP C i = true := by
              unfold zcutP; rw [List.any_eq_true]
              exact ⟨(i, o), (znt_mem hK).mpr hh.1, by rw [Bool.and_eq_true, beq_self_eq_true]; exact ⟨hh.2, rfl⟩⟩
            rw [hc] at this; cases this)
          exact this
        rw [e3]
      · simp only [if_true]
        rw [zcqs_cu (by omega), zcqs_cus (by omega) B g]
  obtain ⟨e1, _⟩ := key (zKn C) (Nat.le_refl _)
  rw [e1, zcq_all h]
  refine Prod.ext ?_ rfl
  show zf (zcu (zmk (zcutP C))) (zKn C) 0 (zPA C) = zX C
  unfold zX
  refine (zf_cut hK _ (fun k h1 h2 s => ?_)).symm
  rw [zcu_1, zmk_bq h2, zcutP_out hK h1, if_neg (by decide)]
/-! the law's loops for it -/
theorem lL_p1 {b K : Nat} (hb : b = 26 ∨ b = 31) {C : zA} (hK4 : K ≤ 4) {i : Nat} (hi : i < K) {a5 : Int32} {k : zM → Int32 → Int32 → Option (Int32 × zM)} : ∀ (c o n : Nat) (g : Int32) (M : zM), o + c = K → c < n → zLA b M 6 0 = nI K → (∀ o', o' < K → M 30 0 (4 * i + o') = zpa C i o') →
    ∃ M', fL_tick_L395 k b (b + 1) (b + 2) (b + 3) 30 a5 (nI i) n M g (nI o) = k M' (zf (zcq C i) c o (zLA b M, g)).2 (nI K) ∧ zLA b M' = (zf (zcq C i) c o (zLA b M, g)).1 ∧ zfb b M M' := by
  intro c
  induction c with
  | zero =>
    intro o n g M ho hn h60 hme
    obtain ⟨n, rfl⟩ : ∃ q, n = q + 1 := ⟨n - 1, by omega⟩
    obtain rfl : o = K := by omega
    have kn : M b 0 (zN 0) = nI o := by show M b 0 0 = _; rw [zls6 (b := b) (M := M) (by omega)]; exact h60
    refine ⟨M, ?_, rfl, zfb.refl⟩
    unfold fL_tick_L395
    rw [zI_eq (by decide), kn, if_pos (by rw [zle (by omega) (by omega)]; omega)]
    rfl
  | succ c ih =>
    intro o n g M ho hn h60 hme
    obtain ⟨n, rfl⟩ : ∃ q, n = q + 1 := ⟨n - 1, by omega⟩
    have hi4 : i < 4 := by omega
    have ho4 : o < 4 := by omega
    have kn : M b 0 (zN 0) = nI K := by show M b 0 0 = _; rw [zls6 (b := b) (M := M) (by omega)]; exact h60
    unfold fL_tick_L395
    rw [zI_eq (by decide), kn, if_neg (by rw [zle (by omega) (by omega)]; omega), zi4, zI_eq (zix_nI (by omega) (by omega)), zN_nI (by omega), hme o (by omega), zL_eq]
    unfold fL_tick_J471
    show ∃ M', _ = k M' (zf (zcq C i) c (o + 1) (zcq C i o (zLA b M, g))).2 (nI K) ∧ zLA b M' = (zf (zcq C i) c (o + 1) (zcq C i o (zLA b M, g))).1 ∧ zfb b M M'
    cases hc : zcr C i o with
    | false =>
      have e : zcq C i o (zLA b M, g) = (zLA b M, g) := by unfold zcq; rw [hc]; rfl
      rw [if_pos (zpa_neg.mpr hc), zL_eq, nI_1, e]
      exact ih (o + 1) n g M (by omega) (by omega) h60 hme
    | true =>
      obtain ⟨y1, y2, y3⟩ := zpa_yes hc
      have hl := zpl_lt hc
      rw [if_neg (fun q => by rw [zpa_neg, hc] at q; cases q), y1, eL_worn hi4 hl, zC_some, zx6, zxI hi4 (by omega), zxN hi4 (by omega), zla (b := b) (M := M) hi4 (show 6 < 12 by omega)]
      have hh : (zLA b M i 6 ≤ zLA b M i (12 + zpl C i o)) = (zht C (zLA b M) i o = true) := by
        rw [zle_i]; unfold zht; rw [decide_eq_true_eq]
      cases ht : zht C (zLA b M) i o with
      | false =>
        have e : zcq C i o (zLA b M, g) = (zLA b M, g) := by unfold zcq; simp only [hc, ht]; rfl
        rw [if_neg (fun q => by rw [hh, ht] at q; exact absurd q (by decide)), zL_eq, nI_1, e]
        exact ih (o + 1) n g M (by omega) (by omega) h60 hme
      | true =>
        have e : zcq C i o (zLA b M, g) = (zp (zLA b M) o 7 (zLA b M o 7 + 1), g ||| zbit o) := by unfold zcq; simp only [hc, ht]; rfl
        rw [if_pos (by rw [hh]; exact ht), zx7, zxI ho4 (by omega), zxI ho4 (by omega), zxN ho4 (by omega), zla (b := b) (M := M) ho4 (show 7 < 12 by omega), zL_eq, zL_eq, zL_eq, nI_1, e]
        have c1 : zLA b (zw M (b + 1) 0 (12 * o + 7) (zLA b M o 7 + 1)) = zp (zLA b M) o 7 (zLA b M o 7 + 1) := zlc ho4 (by omega)
        obtain ⟨M2, e2, c2, f2⟩ := ih (o + 1) n (g ||| zbit o) (zw M (b + 1) 0 (12 * o + 7) (zLA b M o 7 + 1)) (by omega) (by omega) (by rw [c1, zp_np (by omega)]; exact h60) (fun o' h => by rw [zw_ne (by omega)]; exact hme o' h)
        rw [c1] at e2 c2
        exact ⟨M2, e2, c2, (zfb.w (by omega)).trans f2⟩
theorem z_bit (x : Int32) : (x &&& 1 = 0) = ¬ (x &&& 1 = 1) := by
  obtain ⟨j, h1, h2⟩ := pk_andE x (m := 1) 1 (by decide)
  rw [h2]
  obtain rfl | rfl : j = 0 ∨ j = 1 := by omega
  · decide
  · decide
theorem zcqs_60 {C : zA} {k : Nat} (c o : Nat) (s : zA × Int32) : (zf (zcq C k) c o s).1 6 0 = s.1 6 0 := zcqs_o7 (W := s.1) c o zo7.refl 6 0 (by omega)
theorem lL_p2 {b K : Nat} (hb : b = 26 ∨ b = 31) {C : zA} (hK4 : K ≤ 4) {m : Int32} {k : zM → Int32 → Int32 → Option (Int32 × zM)} : ∀ (c i n : Nat) (g : Int32) (M : zM), i + c = K → c < n → zLA b M 6 0 = nI K → (∀ i' o', i' < K → o' < K → M 30 0 (4 * i' + o') = zpa C i' o') →
    ∃ M', fL_tick_L353 k b (b + 1) (b + 2) (b + 3) 30 m n M g (nI i) = k M' (zf (zpq C m K) c i (zLA b M, g)).2 (nI K) ∧ zLA b M' = (zf (zpq C m K) c i (zLA b M, g)).1 ∧ zfb b M M' := by
  intro c
  induction c with
  | zero =>
    intro i n g M hi hn h60 hme
    obtain ⟨n, rfl⟩ : ∃ q, n = q + 1 := ⟨n - 1, by omega⟩
    obtain rfl : i = K := by omega
    have kn : M b 0 (zN 0) = nI i := by show M b 0 0 = _; rw [zls6 (b := b) (M := M) (by omega)]; exact h60
    refine ⟨M, ?_, rfl, zfb.refl⟩
    unfold fL_tick_L353
    rw [zI_eq (by decide), kn, if_pos (by rw [zle (by omega) (by omega)]; omega)]
    rfl
  | succ c ih =>
    intro i n g M hi hn h60 hme
    obtain ⟨n, rfl⟩ : ∃ q, n = q + 1 := ⟨n - 1, by omega⟩
    have hi4 : i < 4 := by omega
    have kn : M b 0 (zN 0) = nI K := by show M b 0 0 = _; rw [zls6 (b := b) (M := M) (by omega)]; exact h60
    unfold fL_tick_L353
    rw [zI_eq (by decide), kn, if_neg (by rw [zle (by omega) (by omega)]; omega)]
    unfold fL_tick_J477
    show ∃ M', _ = k M' (zf (zpq C m K) c (i + 1) (zpq C m K i (zLA b M, g))).2 (nI K) ∧ zLA b M' = (zf (zpq C m K) c (i + 1) (zpq C m K i (zLA b M, g))).1 ∧ zfb b M M'
    by_cases hq : ((m >>> (nI i &&& 31)) &&& 1) = 1
    · have hbq : zbq m i = true := decide_eq_true hq
      have e : zpq C m K i (zLA b M, g) = zf (zcq C i) K 0 (zcu1 i (zLA b M), g) := by unfold zpq; rw [if_pos hbq]
      rw [if_neg (by rw [z_bit]; exact fun q => q hq), zx8, zxI hi4 (by omega), zxN hi4 (by omega), zL_eq, zI_eq (by decide), zI_eq (by decide), zL_eq, show zN 3 = 3 from rfl, show (0 : Int32) = nI 0 from rfl, e]
      generalize hM1 : zw (zw M (b + 1) 0 (12 * i + 8) 1) b 0 3 (zw M (b + 1) 0 (12 * i + 8) 1 b 0 3 + 1) = M1
      have c1 : zLA b M1 = zcu1 i (zLA b M) := by
        rw [← hM1, zlcs (by omega), zls6 (b := b) (M := zw M (b + 1) 0 (12 * i + 8) 1) (by omega), zlc hi4 (by omega)]
        unfold zcu1
        rw [zp_np (show (3 : Nat) ≠ 8 by omega)]
      have f1 : zfb b M M1 := by rw [← hM1]; exact (zfb.w (by omega)).trans (zfb.w (by omega))
      have h60' : zLA b M1 6 0 = nI K := by rw [c1]; unfold zcu1; rw [zp_np (by omega), zp_np (by omega)]; exact h60
      have me1 : ∀ i' o', i' < K → o' < K → M1 30 0 (4 * i' + o') = zpa C i' o' := fun i' o' h1 h2 => by rw [f1 30 0 (by omega)]; exact hme i' o' h1 h2
      obtain ⟨M2, e2, c2, f2⟩ := lL_p1 hb (C := C) hK4 (show i < K by omega) (a5 := m) (k := fun M96 v97 v98 => zL (nI i + 1) fun v99 => fL_tick_L353 k b (b + 1) (b + 2) (b + 3) 30 m n M96 v97 v99) K 0 2000 g M1 (by omega) (by omega) h60' (fun o' h => me1 i o' (by omega) h)
      rw [c1] at e2 c2
      rw [e2, zL_eq, nI_1]
      obtain ⟨M3, e3, c3, f3⟩ := ih (i + 1) n (zf (zcq C i) K 0 (zcu1 i (zLA b M), g)).2 M2 (by omega) (by omega) (by rw [c2, zcqs_60, ← c1]; exact h60') (fun i' o' h1 h2 => by rw [f2 30 0 (by omega)]; exact me1 i' o' h1 h2)
      rw [c2] at e3 c3
      exact ⟨M3, e3, c3, f1.trans (f2.trans f3)⟩
    · have hbq : zbq m i = false := decide_eq_false hq
      have e : zpq C m K i (zLA b M, g) = (zLA b M, g) := by unfold zpq; rw [hbq, if_neg (by decide)]
      rw [if_pos (by rw [z_bit]; exact hq), zL_eq, nI_1, e]
      exact ih (i + 1) n g M (by omega) (by omega) h60 hme
theorem eL_tick {b : Nat} (hb : b = 26 ∨ b = 31) {M : zM} {A : zA} (hA : zLA b M = A) (h : zok A) (h4 : zKn A ≤ 4) : ∃ M', fL_tick M b (b + 1) (b + 2) (b + 3) 30 = some (zcm A + 100 * zgm A, M') ∧ zLA b M' = zTk A ∧ (∀ i o, i < zKn A → o < zKn A → M' 30 0 (4 * i + o) = zpa (zvC A) i o) ∧ zfm b M M' := by
  have hC := zvC_ok h
  have hKC : zKn (zvC A) = zKn A := zvC_Kn h.2.1
  have hKe : ∃ K, K = zKn A := ⟨_, rfl⟩
  obtain ⟨K, hK⟩ := hKe
  unfold fL_tick
  rw [show (0 : Int32) = nI 0 from rfl]
  obtain ⟨M1, e1, c1, f1⟩ := lL_mv (b := b) (K := K) (by omega) (k := fun M37 v38 => fL_tick_L143 (fun M64 v65 => fL_tick_L272 (fun M80 v81 v82 => fL_tick_L353 (fun M100 v101 v102 => zI 2 4 <| zI 2 4 <| zL (zw M100 b 0 (zN 2) ((M100 b 0 (zN 2)) + 1)) fun M103 => some (v81 + (100 * v101), M103)) b (b + 1) (b + 2) (b + 3) 30 v81 2000 M80 (nI 0) (nI 0)) b (b + 1) (b + 2) (b + 3) 30 (nI 0) 2000 M64 (nI 0) (nI 0)) b (b + 1) (b + 2) (b + 3) 30 2000 M37 (nI 0)) K 0 2000 M (by omega) (by omega) (by rw [hA]; exact h) (by rw [hA]; exact hK.symm)
  rw [e1]
  have c1' : zLA b M1 = zvC A := by rw [c1, hA]; unfold zvC; rw [hK]
  obtain ⟨M2, e2, c2, s2, p2, q2, f2⟩ := lL_wo hb hC (hKC.trans hK.symm) (by omega) (k := fun M64 v65 => fL_tick_L272 (fun M80 v81 v82 => fL_tick_L353 (fun M100 v101 v102 => zI 2 4 <| zI 2 4 <| zL (zw M100 b 0 (zN 2) ((M100 b 0 (zN 2)) + 1)) fun M103 => some (v81 + (100 * v101), M103)) b (b + 1) (b + 2) (b + 3) 30 v81 2000 M80 (nI 0) (nI 0)) b (b + 1) (b + 2) (b + 3) 30 (nI 0) 2000 M64 (nI 0) (nI 0)) K 0 2000 M1 (by omega) (by omega) (by rw [c1']; exact zsa.refl)
  rw [e2]
  have c2' : zLA b M2 = zWC (zvC A) := by
    rw [c2, c1', ← hKC.trans hK.symm, zW_eq hC.2.1]; rfl
  have hKW : zKn (zWC (zvC A)) = K := by rw [← c2', s2.Kn, hKC]; exact hK.symm
  have h60 : zWC (zvC A) 6 0 = nI K := by rw [zWC_lo (by omega), hC.1, hKC, ← hK]
  have hstr : ∀ i, i < K → 0 < (zWC (zvC A) i 6).toInt := fun i hi => by
    rw [zWC_lo (by omega)]
    have := (hC.2.2 i (by omega)).2.2.2.2.2.2.1
    omega
  rw [lL_c2 hKW (by omega) (by rw [hKW]; exact h60) hstr c2' (k := fun M80 v81 v82 => fL_tick_L353 (fun M100 v101 v102 => zI 2 4 <| zI 2 4 <| zL (zw M100 b 0 (zN 2) ((M100 b 0 (zN 2)) + 1)) fun M103 => some (v81 + (100 * v101), M103)) b (b + 1) (b + 2) (b + 3) 30 v81 2000 M80 (nI 0) (nI 0)) K 0 2000 (nI 0) (by omega) (by omega)]
  have hm : zf (zcn (zWC (zvC A))) K 0 (nI 0) = zmk (zcutP (zvC A)) := by
    have e := zvm_eq h
    unfold zvm zvW at e
    rw [← hKC, zW_eq hC.2.1, hKC, ← hK] at e
    exact e
  rw [hm]
  obtain ⟨M3, e3, c3, f3⟩ := lL_p2 hb (C := zvC A) (K := K) (by omega) (m := zmk (zcutP (zvC A))) (k := fun M100 v101 v102 => zI 2 4 <| zI 2 4 <| zL (zw M100 b 0 (zN 2) ((M100 b 0 (zN 2)) + 1)) fun M103 => some (zmk (zcutP (zvC A)) + (100 * v101), M103)) K 0 2000 (nI 0) M2 (by omega) (by omega) (by rw [c2']; exact h60) (fun i' o' h1 h2 => p2 i' o' (by omega) h1 h2)
  have hp := zpq_all hC
  rw [hKC, ← hK] at hp
  rw [c2', show nI 0 = (0 : Int32) from rfl, hp] at e3 c3
  rw [show nI 0 = (0 : Int32) from rfl, e3, zI_eq (by decide), zI_eq (by decide), zL_eq, show zN 2 = 2 from rfl]
  refine ⟨_, rfl, ?_, fun i o hi ho => ?_, f1.m.trans (f2.trans (f3.m.trans (zfb.w (by omega)).m))⟩
  · rw [zlcs (by omega), zls6 (b := b) (M := M3) (by omega), c3]
    show zp (zX (zvC A)) 6 2 (zX (zvC A) 6 2 + 1) = zp (zX (zvC A)) 6 2 (A 6 2 + 1)
    rw [zX_62 hC.2.1, zvC_s h.2.1]
  · rw [zw_ne (by omega), f3 30 0 (by omega)]
    exact p2 i o (by omega) (by omega) (by omega)
