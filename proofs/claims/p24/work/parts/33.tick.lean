theorem zfold_congr {α β : Type} {f f' : β → α → β} : ∀ {L : List α} (s : β), (∀ s q, q ∈ L → f s q = f' s q) → L.foldl f s = L.foldl f' s := by
  intro L
  induction L with
  | nil => intro s _; rfl
  | cons q L ih =>
    intro s h
    rw [List.foldl_cons, List.foldl_cons, h s q List.mem_cons_self]
    exact ih _ (fun s q hq => h s q (List.mem_cons_of_mem _ hq))
theorem zmo_id {A B : zA} {k : Nat} (hB : zKn B = zKn A) (h : zKn A ≤ k) : zmo k B = B := by
  unfold zmo
  rw [show zfly B k = false by unfold zfly; rw [hB]; simp [show ¬ k < zKn A by omega]]
  simp
theorem zf_cutI {σ : Type} {f : Nat → σ → σ} {P : σ → Prop} {K n : Nat} (hK : K ≤ n) (s : σ) (h0 : P s) (hs : ∀ k, k < K → ∀ s, P s → P (f k s)) (h : ∀ k, K ≤ k → k < n → ∀ s, P s → f k s = s) : zf f n 0 s = zf f K 0 s := by
  obtain ⟨d, rfl⟩ : ∃ d, n = K + d := ⟨n - K, by omega⟩
  rw [zf_split]
  have hp : P (zf f K 0 s) := zf_inv K 0 s h0 (fun k _ hk s hs' => hs k (by omega) s hs')
  generalize zf f K 0 s = s1 at hp ⊢
  have key : ∀ (d i : Nat), K ≤ i → i + d ≤ K + d + (i - K) → (∀ k, i ≤ k → k < i + d → f k s1 = s1) → zf f d i s1 = s1 := by
    intro d
    induction d with
    | zero => intro i _ _ _; rfl
    | succ d ih =>
      intro i h1 h2 h3
      show zf f d (i + 1) (f i s1) = s1
      rw [h3 i (Nat.le_refl _) (by omega)]
      exact ih (i + 1) (by omega) (by omega) (fun k a b => h3 k (by omega) (by omega))
  exact key d (0 + K) (by omega) (by omega) (fun k a b => h k (by omega) (by omega) s1 hp)
theorem zvC_6 {A : zA} (h : zKn A ≤ 6) : zf zmo 6 0 A = zvC A :=
  zf_cutI (P := fun s => zKn s = zKn A) h A rfl (fun k hk s hs => by rw [zmo_Kn (by omega)]; exact hs) (fun k h1 h2 s hs => zmo_id hs h1)
def zPA (C : zA) : zA := ((znt C).foldl (zpt C) (zWC C, 0, 0)).1
def zX (C : zA) : zA := zf (zcu (zmk (zcutP C))) 6 0 (zPA C)
theorem zcu_s {m : Int32} {A : zA} {k k' p : Nat} (h1 : ¬ (k' = k ∧ p = 8)) (h2 : ¬ (k' = 6 ∧ p = 3)) : zcu m k A k' p = A k' p := by
  unfold zcu; split
  · rw [zp_ne h2, zp_ne h1]
  · rfl
theorem zcus_s {m : Int32} {k' p : Nat} (h2 : ¬ (k' = 6 ∧ p = 3)) (h8 : p ≠ 8 ∨ 6 ≤ k') (A : zA) : zf (zcu m) 6 0 A k' p = A k' p :=
  zf_inv (P := fun s => s k' p = A k' p) 6 0 A rfl (fun k _ hk s hs => by rw [zcu_s (by omega) h2]; exact hs)
theorem zcu_c {m : Int32} {A : zA} {k : Nat} {v : Int32} (hk : k < 6) : zcu m k (zp A 6 2 v) = zp (zcu m k A) 6 2 v := by
  unfold zcu
  cases zbq m k
  · simp
  · simp only [if_true]
    funext k' p'
    simp only [zp]
    by_cases a : k' = 6 ∧ p' = 2
    · rw [if_pos a, if_neg (by omega), if_neg (by omega), if_pos a]
    · rw [if_neg a, if_neg a]; simp
theorem zcus_c {m : Int32} {v : Int32} : ∀ (c i : Nat) (A : zA), i + c ≤ 6 → zf (zcu m) c i (zp A 6 2 v) = zp (zf (zcu m) c i A) 6 2 v := by
  intro c
  induction c with
  | zero => intro i A _; rfl
  | succ c ih =>
    intro i A hi
    show zf (zcu m) c (i + 1) (zcu m i (zp A 6 2 v)) = zp (zf (zcu m) c (i + 1) (zcu m i A)) 6 2 v
    rw [zcu_c (by omega), ih (i + 1) _ (by omega)]
theorem zsa.nt {C A : zA} (h : zsa C A) : znt A = znt C := by
  unfold znt
  refine zf_congr 6 0 [] (fun i _ hi L => ?_)
  rw [zou_eq, zou_eq]
  refine zf_congr _ _ _ (fun o h1 h2 L => ?_)
  unfold zin
  rw [h.cr (by omega) (by omega)]
theorem zp62_sa {C : zA} {v : Int32} : zsa C (zp C 6 2 v) := fun k p h => zp_ne (by omega)
theorem znt_6 {C : zA} (hK : zKn C ≤ 6) {q : Nat × Nat} (h : q ∈ znt C) : q.1 < 6 ∧ q.2 < 6 := ⟨(zcr_6 hK ((znt_mem hK).mp h)).2.2.1, (zcr_6 hK ((znt_mem hK).mp h)).2.2.2⟩
theorem zclsW {C : zA} (hK : zKn C ≤ 6) {v : Int32} : (znt C).foldl (zad (zp C 6 2 v)) (zp C 6 2 v) = zp (zWC C) 6 2 v := by
  have hs := zp62_sa (C := C) (v := v)
  have e : (znt C).foldl (zad (zp C 6 2 v)) (zp C 6 2 v) = (znt C).foldl (zad C) (zp C 6 2 v) := by
    refine zfold_congr _ (fun s q hq => ?_)
    obtain ⟨a, b⟩ := znt_6 hK hq
    unfold zad; rw [hs.pl a b, hs.rb a b]
  rw [e]
  funext k p
  rw [zad_val]
  by_cases h : k = 6 ∧ p = 2
  · obtain ⟨rfl, rfl⟩ := h
    rw [zp_at, zp_at, zls_zero, Int32.add_zero]
    intro q hq; unfold zct; rw [if_neg]
    rintro ⟨h1, -⟩; have := (znt_6 hK hq).1; omega
  · rw [zp_ne h, zp_ne h]; unfold zWC; rw [zad_val]
theorem zclsP {C : zA} (hK : zKn C ≤ 6) {v : Int32} : (znt C).foldl (zpt (zp C 6 2 v)) (zp (zWC C) 6 2 v, 0, 0) = (zp (zPA C) 6 2 v, zmk (zcutP C), zmk (zgotP C)) := by
  have hs := zp62_sa (C := C) (v := v)
  have e : (znt C).foldl (zpt (zp C 6 2 v)) (zp (zWC C) 6 2 v, 0, 0) = (znt C).foldl (zpt C) (zp (zWC C) 6 2 v, 0, 0) := by
    refine zfold_congr _ (fun s q hq => ?_)
    obtain ⟨a, b⟩ := znt_6 hK hq
    unfold zpt zht; rw [hs.pl a b]
  rw [e]
  obtain ⟨h1, h2, h3, h4⟩ := zpt_val (C := C) (W := zp (zWC C) 6 2 v) (znt C) (zp (zWC C) 6 2 v, 0, 0) zo7.refl
  obtain ⟨g1, g2, g3, g4⟩ := zpt_val (C := C) (W := zWC C) (znt C) (zWC C, 0, 0) zo7.refl
  have hht : ∀ q, q ∈ znt C → zht C (zp (zWC C) 6 2 v) q.1 q.2 = zht C (zWC C) q.1 q.2 := fun q hq => by
    obtain ⟨a, b⟩ := znt_6 hK hq
    unfold zht; rw [zp_nk (by omega), zp_nk (by omega)]
  refine Prod.ext ?_ (Prod.ext ?_ ?_)
  · funext k p
    by_cases h7 : p = 7
    · subst h7
      rw [h2 k]
      show zp (zWC C) 6 2 v k 7 + _ = zp (zPA C) 6 2 v k 7
      rw [zp_np (by omega), zp_np (by omega)]
      have : zPA C k 7 = _ := g2 k
      rw [this]
      congr 1
      exact zls_congr (fun q hq => by rw [hht q hq])
    · rw [h1 k p h7]
      show zp (zWC C) 6 2 v k p = zp (zPA C) 6 2 v k p
      have : zPA C k p = zWC C k p := g1 k p h7
      by_cases h62 : k = 6 ∧ p = 2
      · obtain ⟨rfl, rfl⟩ := h62; rw [zp_at, zp_at]
      · rw [zp_ne h62, zp_ne h62, this]
  · show _ = zmk (zcutP C)
    rw [h3]
    have : (znt C).foldl (fun m q => if zht C (zp (zWC C) 6 2 v) q.1 q.2 then m ||| zbit q.1 else m) 0 = (znt C).foldl (fun m q => if zht C (zWC C) q.1 q.2 then m ||| zbit q.1 else m) 0 := zfold_congr _ (fun s q hq => by rw [hht q hq])
    exact this.trans (zmk_fold0 (hit := fun q => zht C (zWC C) q.1 q.2) (sel := fun q => q.1) (fun q hq => (znt_6 hK hq).1))
  · show _ = zmk (zgotP C)
    rw [h4]
    have : (znt C).foldl (fun m q => if zht C (zp (zWC C) 6 2 v) q.1 q.2 then m ||| zbit q.2 else m) 0 = (znt C).foldl (fun m q => if zht C (zWC C) q.1 q.2 then m ||| zbit q.2 else m) 0 := zfold_congr _ (fun s q hq => by rw [hht q hq])
    exact this.trans (zmk_fold0 (hit := fun q => zht C (zWC C) q.1 q.2) (sel := fun q => q.2) (fun q hq => (znt_6 hK hq).2))
theorem zPA_s {C : zA} {k p : Nat} (h : p ≠ 7) : zPA C k p = zWC C k p := (zpt_val (C := C) (W := zWC C) (znt C) (zWC C, 0, 0) zo7.refl).1 k p h
theorem zX_62 {C : zA} (hK : zKn C ≤ 6) : zX C 6 2 = C 6 2 := by
  unfold zX; rw [zcus_s (by omega) (by omega), zPA_s (by omega), zWC_lo (by omega)]
def zTk (A : zA) : zA := zp (zX (zvC A)) 6 2 (A 6 2 + 1)
theorem zvC_s {A : zA} {p : Nat} (hK : zKn A ≤ 6) : zvC A 6 p = A 6 p :=
  zf_inv (P := fun s => s 6 p = A 6 p) _ 0 A rfl (fun k _ hk s hs => by
    unfold zmo; split
    · rw [zmv_s (Or.inl (by omega))]; exact hs
    · exact hs)
theorem ztS_eq {A : zA} (h : zok A) : ztS A = (zp (zPA (zvC A)) 6 2 (A 6 2 + 1), zmk (zcutP (zvC A)), zmk (zgotP (zvC A))) := by
  have hK := h.2.1
  have hC : ztC A = zp (zvC A) 6 2 (A 6 2 + 1) := by
    unfold ztC; rw [zvC_6 hK, zvC_s hK]
  have hKC : zKn (zvC A) ≤ 6 := by rw [zvC_Kn hK]; exact hK
  unfold ztS
  rw [hC, zp62_sa.nt, zclsW hKC, zclsP hKC]
theorem ztk_eq {A : zA} (h : zok A) : ztk A = zTk A := by
  unfold ztk zTk
  rw [ztS_eq h]
  exact zcus_c 6 0 _ (by omega)
theorem zvm_eq {A : zA} (h : zok A) : zvm A = zmk (zcutP (zvC A)) := by
  have hK := h.2.1
  have hKC : zKn (zvC A) = zKn A := zvC_Kn hK
  have hok := zvC_ok h
  unfold zvm zvW
  rw [← hKC, zW_eq hok.2.1]
  show zf (zcn (zWC (zvC A))) (zKn (zvC A)) 0 0 = _
  have e : ∀ k, k < 6 → ∀ m, zcn (zWC (zvC A)) k m = if zcutP (zvC A) k then m ||| zbit k else m := fun k hk m => by
    unfold zcn; rw [zcut_iff hok hk]
    cases (zfly (zWC (zvC A)) k && decide ((zWC (zvC A) k 6).toInt ≤ (zgw (zWC (zvC A)) k).toInt)) <;> simp
  rw [← zf_cut hok.2.1]
  · unfold zmk
    exact zf_congr 6 0 0 (fun k _ hk m => e k (by omega) m)
  · intro k h1 h2 m
    rw [e k h2, zcut_iff hok h2, (zWC_sa hok.2.1).fly h2]
    unfold zfly; simp [show ¬ k < zKn (zvC A) by omega]
theorem zcutP_out {C : zA} (hK : zKn C ≤ 6) {k : Nat} (h : zKn C ≤ k) : zcutP C k = false := by
  unfold zcutP
  rw [List.any_eq_false]
  intro q hq
  have := (zcr_6 hK ((znt_mem hK).mp hq)).1
  simp [show k ≠ q.1 by omega]
theorem zvP_eq {A : zA} (h : zok A) : zvP A = (zPA (zvC A), zmk (zgotP (zvC A))) := by
  have hKC : zKn (zvC A) = zKn A := zvC_Kn h.2.1
  have hok := zvC_ok h
  have hK := hok.2.1
  unfold zvP zvW
  rw [zvm_eq h, ← hKC, zW_eq hK]
  show zf (zq3 (zvC A) (zmk (zcutP (zvC A))) (zKn (zvC A))) (zKn (zvC A)) 0 (zWC (zvC A), 0) = _
  have e := zq3_list (C := zvC A) (W := zWC (zvC A)) (P := zcutP (zvC A)) hK (fun k o hk ho hc hh => by
    unfold zcutP; rw [List.any_eq_true]
    exact ⟨(o, k), (znt_mem hK).mpr hc, by rw [Bool.and_eq_true, beq_self_eq_true]; exact ⟨hh, rfl⟩⟩) (zKn (zvC A)) 0 [] 0 (by omega)
  have e' : zf (zq3 (zvC A) (zmk (zcutP (zvC A))) (zKn (zvC A))) (zKn (zvC A)) 0 (zWC (zvC A), 0) = (zrm (zvC A) (zKn (zvC A))).foldl (zps (zvC A)) (zWC (zvC A), 0) := e
  rw [e', zrm_cut hK, zps_pt _ _ 0]
  obtain ⟨h1, h2, h3, h4⟩ := zpt_val (C := zvC A) (W := zWC (zvC A)) (zrm (zvC A) 6) (zWC (zvC A), 0, 0) zo7.refl
  obtain ⟨g1, g2, g3, g4⟩ := zpt_val (C := zvC A) (W := zWC (zvC A)) (znt (zvC A)) (zWC (zvC A), 0, 0) zo7.refl
  refine Prod.ext ?_ ?_
  · funext k p
    by_cases h7 : p = 7
    · subst h7
      show _ = zPA (zvC A) k 7
      have : zPA (zvC A) k 7 = _ := g2 k
      rw [this, h2 k, zls_rm]
    · exact (h1 k p h7).trans (g1 k p h7).symm
  · show _ = zmk (zgotP (zvC A))
    rw [h4]
    refine (zmk_fold0 (hit := fun q => zht (zvC A) (zWC (zvC A)) q.1 q.2) (sel := fun q => q.2) (fun q hq => (zcr_6 hK ((zrm_mem hK).mp hq)).2.2.2)).trans ?_
    refine zmk_congr (fun i _ => ?_)
    unfold zgotP
    exact zany_eq (fun q => (zrm_mem hK).trans (znt_mem hK).symm)
theorem zvT_eq {A : zA} (h : zok A) : zvT A = zTk A := by
  have hKC : zKn (zvC A) = zKn A := zvC_Kn h.2.1
  have hok := zvC_ok h
  have hK := hok.2.1
  have hc : zvc A = zX (zvC A) := by
    unfold zvc zX
    rw [zvm_eq h, zvP_eq h, ← hKC]
    refine (zf_cut hK _ (fun k h1 h2 s => ?_)).symm
    unfold zcu; rw [zmk_bq h2, zcutP_out hK h1]; simp
  unfold zvT zTk
  rw [hc, zX_62 hK, zvC_s h.2.1]

theorem zabs_b {x y : Int32} {m : Int} (hx : -m ≤ x.toInt ∧ x.toInt ≤ m) (hy : -m ≤ y.toInt ∧ y.toInt ≤ m) (hm : m ≤ 1000) : ∃ n : Nat, (n : Int) ≤ 2 * m ∧ zabs (x - y) = nI n := by
  have e : (x - y).toInt = x.toInt - y.toInt := zt_sub rfl rfl (by omega) (by omega)
  exact ⟨(x.toInt - y.toInt).natAbs, by omega, zabs_nI e (by omega)⟩
theorem zrb_b {C : zA} {k o : Nat} (hk : zkite C k) (ho : zkite C o) : ∃ n, n ≤ 130 ∧ zrb C k o = nI n := by
  obtain ⟨-, -, -, k3, k4, -⟩ := hk
  obtain ⟨-, -, -, o3, o4, o5, -⟩ := ho
  obtain ⟨a, ha, ea⟩ := zabs_b (x := C k 3) (y := C o 3) (m := 3) k3 o3 (by omega)
  obtain ⟨b, hb, eb⟩ := zabs_b (x := C k 4) (y := C o 4) (m := 3) k4 o4 (by omega)
  obtain ⟨g, hg, eg, eg'⟩ := znat (x := C o 5) (by omega)
  have es : zsl C k o = nI (1 + a + b) := by
    unfold zsl; rw [ea, eb, show (1 : Int32) = nI 1 from rfl, nI_add, nI_add]
  have hm : g * (1 + a + b) ≤ 5 * 13 := Nat.mul_le_mul (by omega) (by omega)
  unfold zrb
  rw [es, eg, pk_mul]
  cases zst C k o
  · exact ⟨g * (1 + a + b), by omega, by simp⟩
  · refine ⟨2 * (g * (1 + a + b)), by omega, ?_⟩
    simp only [if_true]
    rw [show (2 : Int32) = nI 2 from rfl, pk_mul]
theorem ztt_b {C : zA} (h : zok C) {k o p : Nat} : ∃ n, n ≤ 130 ∧ ztt C (zct C k p) k o = nI n := by
  unfold ztt
  cases hc : zcr C k o
  · exact ⟨0, by omega, rfl⟩
  · have h6 := zcr_6 h.2.1 hc
    simp only [if_true]
    unfold zct
    by_cases hq : (k, o).1 = k ∧ p = 12 + zpl C (k, o).1 (k, o).2
    · rw [if_pos hq]; exact zrb_b (h.2.2 k h6.1) (h.2.2 o h6.2.1)
    · rw [if_neg hq]; exact ⟨0, by omega, rfl⟩
set_option maxHeartbeats 2000000 in
theorem zls_b {C : zA} (h : zok C) {k p : Nat} (hk : k < 6) : ∃ n, n ≤ 780 ∧ zls (zct C k p) (znt C) = nI n := by
  have hz : ∀ k' o, k' ≠ k → ztt C (zct C k p) k' o = 0 := fun k' o hne => by
    unfold ztt zct
    rw [if_neg (show ¬ ((k', o).1 = k ∧ p = 12 + zpl C (k', o).1 (k', o).2) from fun q => hne q.1)]
    split <;> rfl
  obtain ⟨n0, h0, e0⟩ := ztt_b h (k := k) (o := 0) (p := p)
  obtain ⟨n1, h1, e1⟩ := ztt_b h (k := k) (o := 1) (p := p)
  obtain ⟨n2, h2, e2⟩ := ztt_b h (k := k) (o := 2) (p := p)
  obtain ⟨n3, h3, e3⟩ := ztt_b h (k := k) (o := 3) (p := p)
  obtain ⟨n4, h4, e4⟩ := ztt_b h (k := k) (o := 4) (p := p)
  obtain ⟨n5, h5, e5⟩ := ztt_b h (k := k) (o := 5) (p := p)
  refine ⟨n0 + n1 + n2 + n3 + n4 + n5, by omega, ?_⟩
  rw [← zls_rl]
  unfold zrl
  obtain rfl | rfl | rfl | rfl | rfl | rfl : k = 0 ∨ k = 1 ∨ k = 2 ∨ k = 3 ∨ k = 4 ∨ k = 5 := by omega
  all_goals
    simp only [zf, zls_ri, zls, Nat.zero_add, Nat.reduceAdd]
    simp [hz, e0, e1, e2, e3, e4, e5, nI_add]
theorem zcu_8 {P : Nat → Bool} {k : Nat} : ∀ (c i : Nat) (A : zA), i + c ≤ 6 → zf (zcu (zmk P)) c i A k 8 = if decide (i ≤ k) && decide (k < i + c) && P k then 1 else A k 8 := by
  intro c
  induction c with
  | zero =>
    intro i A _
    show A k 8 = _
    rw [if_neg]
    intro h
    simp only [Bool.and_eq_true, decide_eq_true_eq] at h
    omega
  | succ c ih =>
    intro i A hi
    show zf (zcu (zmk P)) c (i + 1) (zcu (zmk P) i A) k 8 = _
    rw [ih (i + 1) _ (by omega)]
    by_cases hk : k = i
    · subst hk
      simp only [show ¬ (k + 1 ≤ k) by omega, decide_false, Bool.false_and, Bool.false_eq_true, if_false]
      unfold zcu; rw [zmk_bq (by omega)]
      cases P k
      · simp
      · simp [zp, show k ≠ 6 by omega]
    · rw [zcu_s (by omega) (by omega)]
      by_cases h1 : i ≤ k
      · simp [h1, show i + 1 ≤ k by omega, show (k < i + 1 + c) = (k < i + (c + 1)) by rw [show i + 1 + c = i + (c + 1) by omega]]
      · simp [h1, show ¬ i + 1 ≤ k by omega]
theorem zTk_Kn {A : zA} (h : zok A) : zKn (zTk A) = zKn A := by
  refine zKn_of ?_
  unfold zTk zX
  rw [zp_np (by omega), zcus_s (by omega) (by omega), zPA_s (by omega), zWC_lo (by omega), zvC_s h.2.1]
theorem zTk_60 {A : zA} (h : zok A) : zTk A 6 0 = A 6 0 := by
  unfold zTk zX
  rw [zp_np (by omega), zcus_s (by omega) (by omega), zPA_s (by omega), zWC_lo (by omega), zvC_s h.2.1]
theorem zTk_s {A : zA} {k p : Nat} (hk : k < 6) (h7 : p ≠ 7) (h8 : p ≠ 8) : zTk A k p = zWC (zvC A) k p := by
  unfold zTk zX
  rw [zp_nk (by omega), zcus_s (by omega) (by omega), zPA_s h7]
theorem zTk_8 {A : zA} {k : Nat} (hk : k < 6) : zTk A k 8 = if zcutP (zvC A) k then 1 else zvC A k 8 := by
  unfold zTk zX
  rw [zp_nk (by omega), zcu_8 6 0 _ (by omega), zPA_s (by omega), zWC_lo (by omega)]
  simp [hk]
theorem zTk_ok {A : zA} (h : zok A) : zok (zTk A) := by
  have hC := zvC_ok h
  have hKC := zvC_Kn h.2.1
  refine ⟨by rw [zTk_60 h, zTk_Kn h]; exact h.1, by rw [zTk_Kn h]; exact h.2.1, fun k hk => ?_⟩
  rw [zTk_Kn h] at hk
  have hk6 : k < 6 := by have := h.2.1; omega
  have hkite := hC.2.2 k (by omega)
  have lo : ∀ p, p < 12 → p ≠ 7 → p ≠ 8 → zTk A k p = zvC A k p := fun p h1 h2 h3 => by rw [zTk_s hk6 h2 h3, zWC_lo h1]
  obtain ⟨c0, c1, c2, c3, c4, c5, c6, c8, c9, c10, c11, c12, c13⟩ := hkite
  obtain hw : ∀ q, q < 32 → ∃ n : Nat, n ≤ 780 ∧ (zTk A k (12 + q)).toInt = (zvC A k (12 + q)).toInt + n ∧ (zfly (zvC A) k = false → n = 0) := fun q hq => by
    obtain ⟨n, hn, en⟩ := zls_b hC (p := 12 + q) hk6
    have b := c12 q hq
    cases hf : zfly (zvC A) k
    · refine ⟨0, by omega, ?_, fun _ => rfl⟩
      rw [zTk_s hk6 (by omega) (by omega)]; unfold zWC; rw [zad_val, zls_zero, Int32.add_zero]
      · omega
      · intro q2 hq2
        unfold zct; rw [if_neg]
        rintro ⟨e, -⟩
        have hcr := (znt_mem hC.2.1).mp hq2
        unfold zcr at hcr; rw [e, hf] at hcr; simp at hcr
    · refine ⟨n, hn, ?_, fun q => by cases q⟩
      rw [zTk_s hk6 (by omega) (by omega)]; unfold zWC; rw [zad_val, en]
      exact zt_add rfl (nI_toInt (by omega)) (by omega) (by omega)
  have hfly : zvC A k 8 = 0 → zfly (zvC A) k = true := fun e => by unfold zfly; simp [e, show k < zKn (zvC A) by omega]
  refine ⟨?_, ?_, ?_, ?_, ?_, ?_, ?_, ?_, ?_, ?_, ?_, ?_, ?_⟩
  · rw [lo 0 (by omega) (by omega) (by omega)]; exact c0
  · rw [lo 1 (by omega) (by omega) (by omega)]; exact c1
  · rw [lo 2 (by omega) (by omega) (by omega)]; exact c2
  · rw [lo 3 (by omega) (by omega) (by omega)]; exact c3
  · rw [lo 4 (by omega) (by omega) (by omega)]; exact c4
  · rw [lo 5 (by omega) (by omega) (by omega)]; exact c5
  · rw [lo 6 (by omega) (by omega) (by omega)]; exact c6
  · rw [zTk_8 hk6]
    split
    · decide
    · exact c8
  · rw [lo 9 (by omega) (by omega) (by omega)]; exact c9
  · rw [lo 10 (by omega) (by omega) (by omega)]; exact c10
  · rw [lo 11 (by omega) (by omega) (by omega)]; exact c11
  · intro q hq
    obtain ⟨n, hn, en, hz⟩ := hw q hq
    have b := c12 q hq
    rw [en]
    cases hf : zfly (zvC A) k
    · have := hz hf; omega
    · have := c13 (zfly_lt hf).2 q hq
      omega
  · intro e q hq
    rw [zTk_8 hk6] at e
    cases hcut : zcutP (zvC A) k
    · rw [hcut] at e
      simp only [Bool.false_eq_true, if_false] at e
      have hf := hfly e
      have hi := zcut_iff hC hk6
      rw [hcut, (zWC_sa hC.2.1).fly hk6, hf, Bool.true_and] at hi
      have hn := of_decide_eq_false hi.symm
      rw [lo 6 (by omega) (by omega) (by omega), zTk_s hk6 (by omega) (by omega)]
      rw [zWC_lo (by omega)] at hn
      rcases Int.lt_or_le (zWC (zvC A) k (12 + q)).toInt (zvC A k 6).toInt with a | a
      · exact a
      · exact absurd ((zgw_iff (by omega)).mpr ⟨q, hq, a⟩) hn
    · rw [hcut] at e
      simp at e
theorem e4_T {M : zM} {j : Nat} (h : zok (zcA M j)) : ∃ M', fX4_happenIn M j = some ((), M') ∧ zcA M' j = zTk (zcA M j) ∧ M' 20 0 1 = zmk (zcutP (zvC (zcA M j))) ∧ M' 20 0 2 = zmk (zgotP (zvC (zcA M j))) ∧ zwv M' 1 (ztC (zcA M j)) (znt (zvC (zcA M j))) ∧ zfr j 1 M M' := by
  obtain ⟨M1, e1, c1, a1, a2, w1, f1⟩ := e4_tick h
  rw [ztk_eq h] at c1
  rw [ztS_eq h] at a1 a2
  have hC : znt (ztC (zcA M j)) = znt (zvC (zcA M j)) := by
    have : ztC (zcA M j) = zp (zvC (zcA M j)) 6 2 (zcA M j 6 2 + 1) := by unfold ztC; rw [zvC_6 h.2.1, zvC_s h.2.1]
    rw [this]; exact zp62_sa.nt
  rw [hC] at w1
  exact ⟨M1, e1, c1, a1, a2, w1, f1⟩
