/-! ===== calls: undo, save, restore, wipe, wear, step, order, land ===== -/
theorem nI_dec {a : Nat} (h : a + 1 < 2 ^ 31) : nI (a + 1) - 1 = nI a :=
  Int32.toInt_inj.mp (by rw [zt_sub (nI_toInt h) (show (1 : Int32).toInt = 1 from rfl) (by omega) (by omega), nI_toInt (by omega)]; omega)
theorem zwin_iff {v : Int32} {a b : Int} : zwin v a b = true ↔ a ≤ v.toInt ∧ v.toInt ≤ b := by simp [zwin]
theorem zwin_n {v : Int32} {a b : Int} (h : zwin v a b = true) (ha : 0 ≤ a) : ∃ n : Nat, v = nI n ∧ n < 2 ^ 31 ∧ a ≤ n ∧ (n : Int) ≤ b := by
  rw [zwin_iff] at h
  obtain ⟨n, h1, h2, h3⟩ := znat (x := v) (by omega)
  exact ⟨n, h2, h1, by omega, by omega⟩
theorem c60 {M : zM} {σ : zSg} (h : zCR M σ) : M 1 0 0 = σ.1 6 0 := congrFun (congrFun h.1 6) 0
theorem r60 {N : zM} {A : zA} (h : zrA (N 27 0) = A) : N 27 0 (zN 0) = A 6 0 := by
  rw [← h, show zN 0 = 0 from rfl]; exact zrs (f := N 27 0) (p := 0) (by omega)
theorem e0_back {M : zM} {σ : zSg} {B : zA} {L : List zA} (hok : zOK σ) (h : zCR M σ) (hL : σ.2.1 = B :: L) : ∃ M', fX0_takeBack M 0 = some ((), M') ∧ zCR M' (B, L, σ.2.2) ∧ zhi M M' := by
  obtain ⟨h1, ⟨nx, n1, n2, n3⟩, h3, h4, h5, h6⟩ := h
  have hl := hok.2.2.1
  rw [hL] at n3 h3 hl
  rw [List.length_cons] at hl h3
  have hB : B = zcA M (2 + (nx + 5) % 6) := by
    have e0 := n3 0 (by rw [List.length_cons]; omega)
    exact Option.some.inj e0
  obtain ⟨nx', hnx'⟩ : ∃ q, q = (nx + 5) % 6 := ⟨_, rfl⟩
  rw [← hnx'] at hB
  obtain ⟨M1, e1, c1, f1⟩ := e2_copy (M := M) (j := 0) (j1 := 2 + nx') (by omega)
  have a21 : M1 21 0 = M 21 0 := f1 21 0 (by omega)
  have key : ∀ M' : zM, M' 21 0 1 = nI nx' → M' 21 0 2 = nI L.length → (∀ k i, k ≠ 21 → M' k i = M1 k i) → zCR M' (B, L, σ.2.2) := by
    intro M' g1 g2 g3
    have e : ∀ j, zcA M' j = zcA M1 j := fun j => zcA_eq (fun k a b => g3 k j (by omega))
    refine ⟨by rw [e, c1]; exact hB.symm, ⟨nx', by omega, g1, fun n hn => ?_⟩, g2, fun i hi => ⟨?_, ?_⟩, ?_, fun q c hq => ?_⟩
    · have hn' : n < L.length := hn
      have := n3 (n + 1) (by rw [List.length_cons]; omega)
      rw [e, f1.cA (by omega), show (nx' + 5 - n) % 6 = (nx + 5 - (n + 1)) % 6 by omega, ← this]
      rfl
    · rw [e, f1.cA (by omega)]; exact (h4 i hi).1
    · rw [g3 23 i (by omega), f1 23 i (by omega)]; exact (h4 i hi).2
    · rw [g3 24 0 (by omega), f1 24 0 (by omega)]; exact h5
    · rw [g3 25 0 (by omega), f1 25 0 (by omega)]; exact h6 q c hq
  have hne : ¬ nI (L.length + 1) = 0 := by rw [show (0 : Int32) = nI 0 from rfl, zeq (by omega) (by omega)]; omega
  have hsub : nI (L.length + 1) - 1 = nI L.length := nI_dec (by omega)
  have fh : zhi M M1 := f1.hi
  unfold fX0_takeBack
  rw [n2]
  by_cases hc : nx = 0
  · subst hc
    have hx5 : nx' = 5 := by omega
    subst hx5
    rw [if_pos (by decide), show (5 : Int32) = nI 5 from rfl, e0_state (by omega), zC_some, h3, if_neg hne, e1, zC_some, zL_eq, zL_eq]
    refine ⟨_, rfl, key _ ?_ ?_ (fun k i hk => ?_), fh.trans (fun k i hk => ?_)⟩
    · rw [zw_at]; unfold upd; rw [if_neg (by decide), zw_at]; unfold upd; rw [if_pos rfl]
    · rw [zw_at]; unfold upd; rw [if_pos rfl, zw_at]; unfold upd; rw [if_neg (by decide), a21, h3]; exact hsub
    · rw [zw_ne (by omega), zw_ne (by omega)]
    · rw [zw_ne (by omega), zw_ne (by omega)]
  · have hc2 : ¬ nI nx ≤ 0 := by rw [show (0 : Int32) = nI 0 from rfl, zle (by omega) (by omega)]; omega
    have hd : nI nx - 1 = nI nx' := by rw [show nx = nx' + 1 by omega]; exact nI_dec (by omega)
    rw [if_neg hc2, hd, zL_eq, e0_state (by omega), zC_some, h3, if_neg hne, e1, zC_some, zL_eq, zL_eq]
    refine ⟨_, rfl, key _ ?_ ?_ (fun k i hk => ?_), fh.trans (fun k i hk => ?_)⟩
    · rw [zw_at]; unfold upd; rw [if_neg (by decide), zw_at]; unfold upd; rw [if_pos rfl]
    · rw [zw_at]; unfold upd; rw [if_pos rfl, zw_at]; unfold upd; rw [if_neg (by decide), a21, h3]; exact hsub
    · rw [zw_ne (by omega), zw_ne (by omega)]
    · rw [zw_ne (by omega), zw_ne (by omega)]
theorem zOK.back {σ : zSg} {B : zA} {L : List zA} (h : zOK σ) (hL : σ.2.1 = B :: L) : zOK (B, L, σ.2.2) := by
  obtain ⟨h1, h2, h3, h4⟩ := h
  rw [hL] at h2 h3
  rw [List.length_cons] at h3
  exact ⟨h2 B List.mem_cons_self, fun C hC => h2 C (List.mem_cons_of_mem _ hC), by show L.length ≤ 6; omega, h4⟩
theorem j_undo {M N : zM} {σ : zSg} (h0 : zOK σ) (h1 : zCR M σ) (h2 : zRR N σ) : zJ (fX6_undo M) (fX7_undo N) M N := by
  have c21 := h1.2.2.1
  have r26 := h2.2.1
  have hl := h0.2.2.1
  unfold fX6_undo fX7_undo
  cases hL : σ.2.1 with
  | nil =>
    rw [hL] at c21 r26
    have e0 : nI ([] : List zA).length = 0 := rfl
    rw [c21, r26, if_pos e0, if_pos e0]
    exact zJ.ret h0 h1 h2
  | cons B L =>
    obtain ⟨M1, e1, k1, f1⟩ := e0_back h0 h1 hL
    rw [hL, List.length_cons] at c21 r26 hl
    have hne : ¬ nI (L.length + 1) = 0 := by rw [show (0 : Int32) = nI 0 from rfl, zeq (by omega) (by omega)]; omega
    rw [c21, r26, if_neg hne, if_neg hne, e1, zC_some, zL_eq, nI_dec (by omega)]
    have e26 : (zw N 26 0 3 (nI L.length)) 26 0 3 = nI L.length := by rw [zw_at]; unfold upd; rw [if_pos rfl]
    obtain ⟨N2, e2, f2, g2, g3⟩ := e7_moves (M := zw N 26 0 3 (nI L.length)) (k1 := 29) (k2 := 27) (n1 := 1608) (n2 := 268) (v1 := (zw N 26 0 3 (nI L.length)) 26 0 3 * 268) (v3 := 0) (268 * L.length) 0 (by rw [e26, show (268 : Int32) = nI 268 from rfl, pk_mul, Nat.mul_comm]) rfl (by omega) (by omega) (by omega) (by omega) (by omega)
    rw [e2, zC_some, f2 26 0 (by omega), e26, show M1 21 0 2 = nI L.length from k1.2.2.1]
    obtain ⟨q1, q2, q3, q4, q5, q6⟩ := h2
    rw [hL] at q3
    refine ⟨_, M1, N2, (B, L, σ.2.2), rfl, rfl, h0.back hL, k1, ⟨?_, ?_, fun n hn => ?_, fun i hi => ?_, ?_, fun q c hq => ?_⟩, f1, fun k i hk => ?_⟩
    · have e0 := q3 0 (by rw [List.length_cons]; omega)
      have e0' : B = _ := Option.some.inj e0
      show zrA (N2 27 0) = B
      rw [e0']
      refine zrA_eq fun s hs => ?_
      have := g2 s hs
      rw [Nat.zero_add] at this
      rw [this, zw_ne (by omega), List.length_cons, show 268 * (L.length + 1 - 1 - 0) + s = 268 * L.length + s by omega]
    · show _ = nI L.length
      rw [f2 26 0 (by omega), e26]
    · have hn' : n < L.length := hn
      have e0 := q3 (n + 1) (by rw [List.length_cons]; omega)
      rw [f2 29 0 (by omega), zw_ne (by omega)]
      rw [List.length_cons, show L.length + 1 - 1 - (n + 1) = L.length - 1 - n by omega] at e0
      exact e0
    · rw [f2 30 0 (by omega), zw_ne (by omega), f2 31 0 (by omega), zw_ne (by omega)]; exact q4 i hi
    · rw [f2 26 0 (by omega), zw_at]; unfold upd; rw [if_neg (by omega)]; exact q5
    · rw [f2 32 0 (by omega), zw_ne (by omega)]; exact q6 q c hq
    · rw [f2 k i (by omega), zw_ne (by omega)]
theorem e6_slot {M : zM} {i : Nat} (h : i < 2) : fX6_slotOf M (nI i) = some (i, M) := by
  unfold fX6_slotOf
  obtain rfl | rfl : i = 0 ∨ i = 1 := by omega
  · rfl
  · rfl
theorem j_save {M N : zM} {σ : zSg} {v : Int32} (h0 : zOK σ) (h1 : zCR M σ) (h2 : zRR N σ) : zJ (fX6_save M v) (fX7_save N v) M N := by
  unfold fX6_save fX7_save
  rw [e2_within, e7_within, zC_some, zC_some]
  refine zJ.gd h0 h1 h2 fun hw => ?_
  obtain ⟨i, rfl, hi1, _, hi⟩ := zwin_n hw (by decide)
  have hi2 : i < 2 := by have : (1 : Int32).toInt = 1 := rfl; omega
  obtain ⟨M1, e1, c1, f1⟩ := e2_copy (M := M) (j := 8 + i) (j1 := 0) (by omega)
  rw [e6_slot hi2, zC_some, e1, zC_some, zL_eq]
  obtain ⟨N1, e2, f2, g2, g3⟩ := e7_moves (M := N) (k1 := 27) (k2 := 30) (n1 := 268) (n2 := 536) (v1 := 0) (v3 := 268 * nI i) 0 (268 * i) rfl (by rw [show (268 : Int32) = nI 268 from rfl, pk_mul]) (by omega) (by omega) (by omega) (by omega) (by omega)
  rw [e2, zC_some, zI_eq (zix_nI hi2 (by omega)), zL_eq, zI_eq (by decide), zN_nI (by omega), show zN 0 = 0 from rfl]
  have hx : (zw M1 23 i 1 1) 1 0 0 = σ.1 6 0 := by rw [zw_ne (by omega), f1 1 0 (by omega)]; exact c60 h1
  have hy : (zw N1 31 0 i 1) 27 0 0 = σ.1 6 0 := by rw [zw_ne (by omega), f2 27 0 (by omega)]; exact r60 h2.1
  rw [hx, hy]
  obtain ⟨p1, ⟨nx, n1, n2, n3⟩, p3, p4, p5, p6⟩ := h1
  obtain ⟨q1, q2, q3, q4, q5, q6⟩ := h2
  obtain ⟨o1, o2, o3, o4, o5, o6⟩ := h0
  refine ⟨_, _, _, (σ.1, σ.2.1, (fun q => if q = i then σ.1 else σ.2.2.1 q), (fun q => if q = i then 1 else σ.2.2.2.1 q), σ.2.2.2.2), rfl, rfl, ⟨o1, o2, o3, fun q hq => ?_, fun q hq => ?_, o6⟩, ⟨?_, ⟨nx, n1, ?_, fun n hn => ?_⟩, ?_, fun q hq => ⟨?_, ?_⟩, ?_, fun q c hq => ?_⟩, ⟨?_, ?_, fun n hn => ?_, fun q hq => ⟨?_, ?_⟩, ?_, fun q c hq => ?_⟩, fun k q hk => ?_, fun k q hk => ?_⟩
  · show zok (if q = i then σ.1 else σ.2.2.1 q)
    split
    · exact o1
    · exact o4 q hq
  · show (if q = i then (1 : Int32) else σ.2.2.2.1 q) = 0 ∨ (if q = i then (1 : Int32) else σ.2.2.2.1 q) = 1
    split
    · exact Or.inr rfl
    · exact o5 q hq
  · show zcA (zw M1 23 i 1 1) 0 = σ.1
    rw [zcA_skip (by omega), f1.cA (by omega)]; exact p1
  · rw [zw_ne (by omega), f1 21 0 (by omega)]; exact n2
  · rw [zcA_skip (by omega), f1.cA (by omega)]; exact n3 n hn
  · rw [zw_ne (by omega), f1 21 0 (by omega)]; exact p3
  · show zcA (zw M1 23 i 1 1) (8 + q) = if q = i then σ.1 else σ.2.2.1 q
    rw [zcA_skip (by omega)]
    by_cases hqi : q = i
    · rw [if_pos hqi, hqi, c1]; exact p1
    · rw [if_neg hqi, f1.cA (by omega)]; exact (p4 q hq).1
  · show zw M1 23 i 1 1 23 q 1 = if q = i then 1 else σ.2.2.2.1 q
    by_cases hqi : q = i
    · rw [if_pos hqi, hqi, zw_at]; unfold upd; rw [if_pos rfl]
    · rw [if_neg hqi, zw_ne (by omega), f1 23 q (by omega)]; exact (p4 q hq).2
  · rw [zw_ne (by omega), f1 24 0 (by omega)]; exact p5
  · rw [zw_ne (by omega), f1 25 0 (by omega)]; exact p6 q c hq
  · rw [zw_ne (by omega), f2 27 0 (by omega)]; exact q1
  · rw [zw_ne (by omega), f2 26 0 (by omega)]; exact q2
  · rw [zw_ne (by omega), f2 29 0 (by omega)]; exact q3 n hn
  · show zrA (fun s => (zw N1 31 0 i 1) 30 0 (268 * q + s)) = if q = i then σ.1 else σ.2.2.1 q
    rw [zw_ne (by omega)]
    by_cases hqi : q = i
    · rw [if_pos hqi, hqi]
      refine zrA_of q1 fun s hs => ?_
      rw [g2 s hs, Nat.zero_add]
    · rw [if_neg hqi]
      refine zrA_of (q4 q hq).1 fun s hs => ?_
      exact g3 _ (by omega)
  · show (zw N1 31 0 i 1) 31 0 q = if q = i then 1 else σ.2.2.2.1 q
    rw [zw_at]; unfold upd
    by_cases hqi : q = i
    · rw [if_pos hqi, if_pos hqi]
    · rw [if_neg hqi, if_neg hqi, f2 31 0 (by omega)]; exact (q4 q hq).2
  · rw [zw_ne (by omega), f2 26 0 (by omega)]; exact q5
  · rw [zw_ne (by omega), f2 32 0 (by omega)]; exact q6 q c hq
  · rw [zw_ne (by omega), f1 k q (by omega)]
  · rw [zw_ne (by omega), f2 k q (by omega)]
theorem zJ.rec2 {M N : zM} {σ : zSg} {f6 f7 : zM → Option (Int32 × zM)} (h0 : zOK σ) (h1 : zCR M σ) (h2 : zRR N σ) (h : ∀ M1 N1, fX0_record M 0 = some ((), M1) → zOK (zrec σ) → zCR M1 (zrec σ) → zRR N1 (zrec σ) → zJ (f6 M1) (f7 N1) M1 N1) : zJ (zC (fX0_record M 0) fun _ M1 => f6 M1) (zC (fX7_record N) fun _ N1 => f7 N1) M N := by
  obtain ⟨M1, a1, a2, a3⟩ := e0_rec h0 h1
  obtain ⟨N1, b1, b2, b3⟩ := e7_rec h0 h2
  rw [a1, b1, zC_some, zC_some]
  exact (h M1 N1 a1 (zrec_ok h0) a2 b2).mono a3 b3
theorem j_restore {M N : zM} {σ : zSg} {v : Int32} (h0 : zOK σ) (h1 : zCR M σ) (h2 : zRR N σ) : zJ (fX6_restore M v) (fX7_restore N v) M N := by
  unfold fX6_restore fX7_restore
  rw [e2_within, e7_within, zC_some, zC_some]
  refine zJ.gd h0 h1 h2 fun hw => ?_
  obtain ⟨i, rfl, hi1, _, hi⟩ := zwin_n hw (by decide)
  have hi2 : i < 2 := by have : (1 : Int32).toInt = 1 := rfl; omega
  rw [e6_slot hi2, zC_some, zI_eq (zix_nI hi2 (by omega)), zN_nI (by omega), (h1.2.2.2.1 i hi2).2, (h2.2.2.2.1 i hi2).2]
  by_cases hf : σ.2.2.2.1 i = 0
  · rw [if_pos hf, if_pos hf]; exact zJ.ret h0 h1 h2
  · rw [if_neg hf, if_neg hf]
    refine zJ.rec h0 h1 h2 fun M1 N1 g0 g1 g2 => ?_
    obtain ⟨M2, e1, c1, f1⟩ := e2_copy (M := M1) (j := 0) (j1 := 8 + i) (by omega)
    obtain ⟨N2, e2, f2, b2, b3⟩ := e7_moves (M := N1) (k1 := 30) (k2 := 27) (n1 := 536) (n2 := 268) (v1 := 268 * nI i) (v3 := 0) (268 * i) 0 (by rw [show (268 : Int32) = nI 268 from rfl, pk_mul]) rfl (by omega) (by omega) (by omega) (by omega) (by omega)
    rw [e1, e2, zC_some, zC_some, zI_eq (by decide)]
    have hA : zcA M2 0 = σ.2.2.1 i := c1.trans (g1.2.2.2.1 i hi2).1
    have hB : zrA (N2 27 0) = σ.2.2.1 i := by
      refine zrA_of (g2.2.2.2.1 i hi2).1 fun s hs => ?_
      have := b2 s hs
      rw [Nat.zero_add] at this
      exact this
    rw [r60 hB, show M2 1 0 0 = σ.2.2.1 i 6 0 from congrFun (congrFun hA 6) 0]
    exact zJ.fin g0 g1 g2 (h0.2.2.2.1 i hi2) (f1.gs (by omega)) hA ⟨fun k q a b c d => f2 k q (by omega), by rw [f2 26 0 (by omega)], by rw [f2 26 0 (by omega)]⟩ hB
theorem j_wipe {M N : zM} {σ : zSg} (h0 : zOK σ) (h1 : zCR M σ) (h2 : zRR N σ) : zJ (fX6_wipe M) (fX7_wipe N) M N := by
  unfold fX6_wipe fX7_wipe fX1_clear
  rw [zL_eq, zL_eq, zL_eq, zL_eq, zC_some, h1.2.2.2.2.1, h2.2.2.2.2.1]
  obtain ⟨p1, ⟨nx, n1, n2, n3⟩, p3, p4, p5, p6⟩ := h1
  obtain ⟨q1, q2, q3, q4, q5, q6⟩ := h2
  obtain ⟨o1, o2, o3, o4, o5, o6⟩ := h0
  refine ⟨_, _, _, (σ.1, σ.2.1, σ.2.2.1, σ.2.2.2.1, []), rfl, rfl, ⟨o1, o2, o3, o4, o5, Nat.zero_le _, fun c hc => absurd hc (by simp)⟩, ⟨?_, ⟨nx, n1, ?_, fun n hn => ?_⟩, ?_, fun q hq => ?_, ?_, fun q c hq => absurd hq (by simp)⟩, ⟨?_, ?_, fun n hn => ?_, fun q hq => ?_, ?_, fun q c hq => absurd hq (by simp)⟩, fun k q hk => zw_ne (by omega), fun k q hk => zw_ne (by omega)⟩
  · rw [zcA_skip (by omega)]; exact p1
  · rw [zw_ne (by omega)]; exact n2
  · rw [zcA_skip (by omega)]; exact n3 n hn
  · rw [zw_ne (by omega)]; exact p3
  · rw [zcA_skip (by omega), zw_ne (by omega)]; exact p4 q hq
  · rw [zw_at]; unfold upd; rw [if_pos rfl]; rfl
  · rw [zw_ne (by omega)]; exact q1
  · rw [zw_at]; unfold upd; rw [if_neg (by omega)]; exact q2
  · rw [zw_ne (by omega)]; exact q3 n hn
  · rw [zw_ne (by omega), zw_ne (by omega)]; exact q4 q hq
  · rw [zw_at]; unfold upd; rw [if_pos rfl]; rfl
