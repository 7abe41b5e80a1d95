def zvC (A : zA) : zA := zf zmo (zKn A) 0 A
def zvW (A : zA) : zA := zf (zroa (zvC A) (zKn A)) (zKn A) 0 (zvC A)
def zvm (A : zA) : Int32 := zf (zcn (zvW A)) (zKn A) 0 0
def zvP (A : zA) : zA × Int32 := zf (zq3 (zvC A) (zvm A) (zKn A)) (zKn A) 0 (zvW A, 0)
def zvc (A : zA) : zA := zf (zcu (zvm A)) (zKn A) 0 (zvP A).1
def zvT (A : zA) : zA := zp (zvc A) 6 2 (zvc A 6 2 + 1)
theorem zvC_ok {A : zA} (h : zok A) : zok (zvC A) := zf_inv _ 0 A h (fun k _ _ s hs => zmo_ok hs)
theorem zvC_Kn {A : zA} (h : zKn A ≤ 6) : zKn (zvC A) = zKn A :=
  zf_inv (P := fun s => zKn s = zKn A) _ 0 A rfl (fun k _ hk s hs => by rw [zmo_Kn (by omega)]; exact hs)
theorem e7_cut {M : zM} {C : zA} {K : Nat} (hK6 : K ≤ 6) (hK : zKn (zrA (M 27 0)) = K) (h0 : M 27 0 (zN 0) = nI K) (hp : zplc M C K) :
    ∃ M', fX7_cutThrough M = some ((), M') ∧ M' 26 0 12 = zf (zcn (zrA (M 27 0))) K 0 0 ∧ M' 26 0 13 = (zf (zq3 C (zf (zcn (zrA (M 27 0))) K 0 0) K) K 0 (zrA (M 27 0), 0)).2 ∧
      zrA (M' 27 0) = zf (zcu (zf (zcn (zrA (M 27 0))) K 0 0)) K 0 (zf (zq3 C (zf (zcn (zrA (M 27 0))) K 0 0) K) K 0 (zrA (M 27 0), 0)).1 ∧ zplc M' C K ∧ zf7 M M' := by
  unfold fX7_cutThrough
  simp only [zL_eq]
  generalize hM1 : zw (zw M 26 0 12 0) 26 0 13 0 = M1
  have a27 : M1 27 0 = M 27 0 := by rw [← hM1, zw_ne (by omega), zw_ne (by omega)]
  have a12 : M1 26 0 12 = 0 := by rw [← hM1, zw_at]; unfold upd; rw [if_neg (by decide), zw_at]; unfold upd; rw [if_pos rfl]
  have a13 : M1 26 0 13 = 0 := by rw [← hM1, zw_at]; unfold upd; rw [if_pos rfl]
  have a33 : M1 33 0 = M 33 0 := by rw [← hM1, zw_ne (by omega), zw_ne (by omega)]
  have f1 : zf7 M M1 := by rw [← hM1]; exact (zf7.w26 (by omega)).trans (zf7.w26 (by omega))
  obtain ⟨M2, e2, c2, d2, f2⟩ := l7_cuts (K := K) (k := fun M35 v36 => fX7_cutThrough_L69 (fun M51 v52 => fX7_cutThrough_L172 (fun M57 v58 => some ((), M57)) 2000 M51 0) 2000 M35 0) K 0 2000 M1 (by omega) (by omega) (by rw [a27]; exact hK) hK6 (by rw [a27]; exact h0)
  refine z_ex e2 ?_
  have b27 : M2 27 0 = M 27 0 := by rw [f2.1 27 0 (by omega), a27]
  rw [a27, a12] at c2
  obtain ⟨M3, e3, c3, z3, f3⟩ := l7_pout (C := C) hK6 (k := fun M51 v52 => fX7_cutThrough_L172 (fun M57 v58 => some ((), M57)) 2000 M51 0) K 0 2000 M2 (by omega) (by omega) (by rw [b27]; exact h0) (fun i o h1 h2 => by rw [f2.1 33 0 (by omega), a33]; exact hp i o h1 h2)
  refine z_ex e3 ?_
  rw [b27, d2, a13, c2] at c3
  obtain ⟨M4, e4, c4, f4⟩ := l7_cutk hK6 (k := fun M57 v58 => some ((), M57)) K 0 2000 M3 (by omega) (by omega) z3
  refine ⟨M4, e4, ?_, ?_, ?_, ?_, f1.trans (f2.f7.trans (f3.f7.trans f4.f7))⟩
  · rw [f4 26 0 (by omega), f3.2 12 (by omega), c2]
  · rw [f4 26 0 (by omega)]; exact congrArg Prod.snd c3
  · rw [c4, f3.2 12 (by omega), c2]; rw [show zrA (M3 27 0) = _ from congrArg Prod.fst c3]
  · intro i o h1 h2
    rw [f4 33 0 (by omega), f3.1 33 0 (by omega) (by omega), f2.1 33 0 (by omega), a33]; exact hp i o h1 h2
theorem e7_tick {M : zM} (h : zok (zrA (M 27 0))) : ∃ M', fX7_tick M = some ((), M') ∧ zrA (M' 27 0) = zvT (zrA (M 27 0)) ∧ M' 26 0 12 = zvm (zrA (M 27 0)) ∧ M' 26 0 13 = (zvP (zrA (M 27 0))).2 ∧ zplc M' (zvC (zrA (M 27 0))) (zKn (zrA (M 27 0))) ∧ zf7 M M' := by
  unfold fX7_tick
  have hK6 := h.2.1
  obtain ⟨M1, e1, c1, f1⟩ := l7_move (k := fun M26 v27 =>
    zC (fX7_wearOut M26) fun _ M28 =>
    zC (fX7_cutThrough M28) fun _ M29 =>
    zI 2 268 <|
    zI 2 268 <| zL (zw M29 27 0 (zN 2) ((M29 27 0 (zN 2)) + 1)) fun M30 =>
    some ((), M30)) (zKn (zrA (M 27 0))) 0 2000 M (by omega) (by omega) h
  refine z_ex e1 ?_
  have c1' : zrA (M1 27 0) = zvC (zrA (M 27 0)) := c1
  have ok1 : zok (zrA (M1 27 0)) := by rw [c1']; exact zvC_ok h
  have K1 : zKn (zrA (M1 27 0)) = zKn (zrA (M 27 0)) := by rw [c1']; exact zvC_Kn hK6
  obtain ⟨M2, e2, c2, s2, p2, f2⟩ := e7_wear ok1
  rw [e2, zC_some]
  rw [c1'] at c2 s2 p2 K1
  rw [K1] at c2 p2
  have c2' : zrA (M2 27 0) = zvW (zrA (M 27 0)) := c2
  have K2 : zKn (zrA (M2 27 0)) = zKn (zrA (M 27 0)) := by rw [s2.Kn, K1]
  obtain ⟨M3, e3, a3, b3, c3, p3, f3⟩ := e7_cut hK6 K2 (by rw [s2.M0 (by rw [← c1']; exact ok1), K1]) p2
  rw [e3, zC_some]
  rw [c2'] at a3 b3 c3
  simp only [zI_eq (show zix 2 268 = true by decide), show zN 2 = 2 from rfl, zL_eq]
  refine ⟨_, rfl, ?_, ?_, ?_, ?_, f1.f7.trans (f2.trans (f3.trans zf7.w27))⟩
  · rw [zrzs (by omega), zrs (f := M3 27 0) (by omega), c3]; rfl
  · rw [zw_ne (by omega)]; exact a3
  · rw [zw_ne (by omega)]; exact b3
  · intro i o h1 h2; rw [zw_ne (by omega)]; exact p3 i o h1 h2
