theorem z_ex {α : Type} {a : α} {o o' : Option (α × zM)} {P : zM → Prop} (h : o = o') (hx : ∃ M', o' = some (a, M') ∧ P M') : ∃ M', o = some (a, M') ∧ P M' := by rw [h]; exact hx
def ztS (A : zA) : zA × Int32 × Int32 := (znt (ztC A)).foldl (zpt (ztC A)) ((znt (ztC A)).foldl (zad (ztC A)) (ztC A), 0, 0)
def ztk (A : zA) : zA := zf (zcu (ztS A).2.1) 6 0 (ztS A).1
theorem zcr_fly {C : zA} {i o : Nat} (h : zcr C i o = true) : i < zKn C ∧ o < zKn C := by
  unfold zcr at h
  rw [Bool.and_eq_true, Bool.and_eq_true] at h
  exact ⟨(zfly_lt h.1.1).1, (zfly_lt h.1.2).1⟩
theorem znt_gd {C : zA} (hz : zok C) : zgd C (znt C) := by
  unfold znt
  refine zf_inv (P := zgd C) 6 0 [] (fun q hq => by simp at hq) (fun i h1 h2 L hL => ?_)
  unfold zou
  split
  · refine zf_inv (P := zgd C) _ _ L hL (fun o h3 h4 L hL => ?_)
    unfold zin
    split
    · next hc =>
      intro q hq
      rcases List.mem_append.mp hq with hq | hq
      · exact hL q hq
      · have hc' : zcr C o i = true := by rw [zcr_sym]; exact hc
        simp only [List.mem_cons, List.not_mem_nil, or_false] at hq
        rcases hq with rfl | rfl
        · exact ⟨hz.hk (zcr_fly hc).1, hz.hk (zcr_fly hc).2, zpl_lt hc⟩
        · exact ⟨hz.hk (zcr_fly hc').1, hz.hk (zcr_fly hc').2, zpl_lt hc'⟩
    · exact hL
  · exact hL
theorem zad_60 {C : zA} : ∀ {L : List (Nat × Nat)} (_ : zgd C L) (A : zA), L.foldl (zad C) A 6 0 = A 6 0 := by
  intro L
  induction L with
  | nil => intro _ A; rfl
  | cons q L ih =>
    intro hg A
    rw [List.foldl_cons, ih (fun q hq => hg q (List.mem_cons_of_mem _ hq))]
    unfold zad
    exact zp_ne (by have := (hg q (List.mem_cons_self ..)).1.lt; omega)
theorem e4_wear {M : zM} {j : Nat} {C : zA} (hz : zok C) (hW : zwv M 1 C (znt C)) (hs : zsw C (zcA M j)) : ∃ M', fX4_wearStrings M j = some ((), M') ∧ zcA M' j = (znt C).foldl (zad C) (zcA M j) ∧ zfk j M M' := by
  unfold fX4_wearStrings
  obtain ⟨M1, e1, c1, f1⟩ := l4_wear (j := j) (C := C) (k := fun M26 v27 => some ((), M26)) (znt C) [] 2000 M hW hs (znt_gd hz) (by have := hW.2.1; omega)
  exact ⟨M1, e1, c1, f1⟩
theorem e4_points {M : zM} {j : Nat} {C : zA} (hz : zok C) (hW : zwv M 1 C (znt C)) (hS : zcA M j 6 0 = C 6 0) : ∃ M', fX4_givePoints M j = some ((), M') ∧ (zcA M' j, M' 20 0 1, M' 20 0 2) = (znt C).foldl (zpt C) (zcA M j, M 20 0 1, M 20 0 2) ∧ zft j M M' := by
  unfold fX4_givePoints
  obtain ⟨M1, e1, c1, f1⟩ := l4_points (j := j) (C := C) (k := fun M26 v27 => some ((), M26)) (znt C) [] 2000 M hW (znt_gd hz) hS (by have := hW.2.1; omega)
  exact ⟨M1, e1, c1, f1⟩
theorem e4_tick {M : zM} {j : Nat} (h : zok (zcA M j)) : ∃ M', fX4_happenIn M j = some ((), M') ∧ zcA M' j = ztk (zcA M j) ∧ M' 20 0 1 = (ztS (zcA M j)).2.1 ∧ M' 20 0 2 = (ztS (zcA M j)).2.2 ∧ zwv M' 1 (ztC (zcA M j)) (znt (ztC (zcA M j))) ∧ zfr j 1 M M' := by
  unfold fX4_happenIn
  obtain ⟨M1, e1, c1, f1⟩ := l4_move (j := j) (k := fun M26 v27 =>
    zL (zw M26 1 j 1 ((M26 1 j 1) + 1)) fun M28 =>
    zL (zw M28 20 0 1 0) fun M29 =>
    zL (zw M29 20 0 2 0) fun M30 =>
    zC (fX5_measure M30 1 j) fun _ M31 =>
    zC (fX4_wearStrings M31 j) fun _ M32 =>
    zC (fX4_givePoints M32 j) fun _ M33 =>
    if (M33 20 0 1) = 0 then some ((), M33) else zC (fX4_cutStrings M33 j) fun _ M34 => some ((), M34)) 6 0 2000 M (by omega) (by omega) h
  refine z_ex e1 ?_
  simp only [zL_eq]
  generalize hM2 : zw (zw (zw M1 1 j 1 (M1 1 j 1 + 1)) 20 0 1 0) 20 0 2 0 = M2
  have hC : zcA M2 j = ztC (zcA M j) := by
    rw [← hM2, zcA_skip (by omega), zcA_skip (by omega), zcs2, zs2 (M := M1), c1]; rfl
  have f2 : zfr j 1 M M2 := fun k i a b c => by
    rw [← hM2, zw_ne (by omega), zw_ne (by omega), zw_ne (by omega)]; exact f1 k i a
  have t1 : M2 20 0 1 = 0 := by rw [← hM2, zw_at]; unfold upd; rw [if_neg (by decide), zw_at]; unfold upd; rw [if_pos rfl]
  have t2 : M2 20 0 2 = 0 := by rw [← hM2, zw_at]; unfold upd; rw [if_pos rfl]
  have hok : zok (zcA M2 j) := by rw [hC]; exact ztC_ok h
  obtain ⟨M3, e3, w3, f3⟩ := e5_measure (w := 1) hok
  rw [e3, zC_some]
  rw [hC] at w3
  have c3 : zcA M3 j = ztC (zcA M j) := by rw [f3.cA, hC]
  obtain ⟨M4, e4, c4, f4⟩ := e4_wear (j := j) (ztC_ok h) w3 (by rw [c3]; exact fun _ _ _ => rfl)
  rw [e4, zC_some]
  obtain ⟨M5, e5, c5, f5⟩ := e4_points (j := j) (ztC_ok h) (f4.wv w3) (by rw [c4, c3]; exact zad_60 (znt_gd (ztC_ok h)) _)
  rw [e5, zC_some]
  have a1 : M4 20 0 1 = 0 := by rw [f4 20 0 (by omega), f3 20 0 (by omega)]; exact t1
  have a2 : M4 20 0 2 = 0 := by rw [f4 20 0 (by omega), f3 20 0 (by omega)]; exact t2
  rw [a1, a2, c4, c3] at c5
  have hS : (zcA M5 j, M5 20 0 1, M5 20 0 2) = ztS (zcA M j) := c5
  have g5 : zfr j 1 M M5 := f2.trans (f3.fr.trans (f4.fr.trans f5.fr))
  have w5 := f5.wv (f4.wv w3)
  have h1 : zcA M5 j = (ztS (zcA M j)).1 := congrArg Prod.fst hS
  have h2 : M5 20 0 1 = (ztS (zcA M j)).2.1 := congrArg (fun q => q.2.1) hS
  have h3 : M5 20 0 2 = (ztS (zcA M j)).2.2 := congrArg (fun q => q.2.2) hS
  by_cases hm : M5 20 0 1 = 0
  · rw [if_pos hm]
    refine ⟨M5, rfl, ?_, h2, h3, w5, g5⟩
    rw [h1]; unfold ztk; rw [← h2, hm]
    refine (zf_id 6 0 _ (fun k _ hk s => ?_)).symm
    unfold zcu zbq
    rw [if_neg]
    simp
  · rw [if_neg hm]
    obtain ⟨M6, e6, c6, f6⟩ := l4_cut (j := j) (k := fun M25 v26 => some ((), M25)) 6 0 2000 M5 (by omega) (by omega)
    have e6' : fX4_cutStrings M5 j = some ((), M6) := e6
    rw [e6', zC_some]
    refine ⟨M6, rfl, ?_, ?_, ?_, f6.wv w5, g5.trans f6.fr⟩
    · rw [c6, h1, h2]; rfl
    · rw [f6 20 0 (by omega)]; exact h2
    · rw [f6 20 0 (by omega)]; exact h3
