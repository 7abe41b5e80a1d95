/-! ===== all calls, and the start ===== -/
theorem z_ops : zOps zInv := by
  refine ⟨fun M a0 a1 a2 a3 a4 h => ?_, fun M a0 a1 a2 h => ?_, fun M a0 a1 h => ?_, fun M a0 h => ?_, fun M a0 h => ?_, fun M h => ?_, fun M h => ?_, fun M a0 a1 h => ?_, fun M a0 a1 h => ?_, fun M a0 a1 a2 h => ?_, fun M a0 h => ?_, fun M a0 a1 h => ?_, fun M a0 h => ?_, fun M a0 a1 h => ?_, fun M a0 a1 a2 h => ?_, fun M a0 h => ?_, fun M h => ?_, fun M h => ?_, fun M h => ?_, fun M a0 h => ?_, fun M a0 h => ?_⟩
  · exact zJ.comb (f6 := fun M => fX6_launch M a0 a1 a2 a3 a4) (f7 := fun M => fX7_launch M a0 a1 a2 a3 a4) (fun M N σ h0 h1 h2 => j_launch h0 h1 h2) M h
  · exact zJ.comb (f6 := fun M => fX6_order M a0 a1 a2) (f7 := fun M => fX7_order M a0 a1 a2) (fun M N σ h0 h1 h2 => j_order h0 h1 h2) M h
  · exact zJ.comb (f6 := fun M => fX6_step M a0 a1) (f7 := fun M => fX7_step M a0 a1) (fun M N σ h0 h1 h2 => j_step h0 h1 h2) M h
  · exact zJ.comb (f6 := fun M => fX6_land M a0) (f7 := fun M => fX7_land M a0) (fun M N σ h0 h1 h2 => j_land h0 h1 h2) M h
  · exact zJ.comb (f6 := fun M => fX6_pass M a0) (f7 := fun M => fX7_pass M a0) (fun M N σ h0 h1 h2 => j_pass h0 h1 h2) M h
  · exact zJ.comb (f6 := fun M => fX6_round M) (f7 := fun M => fX7_round M) (fun M N σ h0 h1 h2 => j_round h0 h1 h2) M h
  · exact zJ.comb (f6 := fun M => fX6_carryOut M) (f7 := fun M => fX7_carryOut M) (fun M N σ h0 h1 h2 => j_carry h0 h1 h2) M h
  · exact zJ.comb (f6 := fun M => fX6_kite M a0 a1) (f7 := fun M => fX7_kite M a0 a1) (fun M N σ h0 h1 h2 => j_kite h0 h1 h2) M h
  · exact zJ.comb (f6 := fun M => fX6_wear M a0 a1) (f7 := fun M => fX7_wear M a0 a1) (fun M N σ h0 h1 h2 => j_wear h0 h1 h2) M h
  · exact zJ.comb (f6 := fun M => fX6_crossing M a0 a1 a2) (f7 := fun M => fX7_crossing M a0 a1 a2) (fun M N σ h0 h1 h2 => j_crossing h0 h1 h2) M h
  · exact zJ.comb (f6 := fun M => fX6_count M a0) (f7 := fun M => fX7_count M a0) (fun M N σ h0 h1 h2 => j_count h0 h1 h2) M h
  · exact zJ.comb (f6 := fun M => fX6_ifPassed M a0 a1) (f7 := fun M => fX7_ifPassed M a0 a1) (fun M N σ h0 h1 h2 => j_ifp h0 h1 h2) M h
  · exact zJ.comb (f6 := fun M => fX6_firstCut M a0) (f7 := fun M => fX7_firstCut M a0) (fun M N σ h0 h1 h2 => j_firstCut h0 h1 h2) M h
  · exact zJ.comb (f6 := fun M => fX6_meets M a0 a1) (f7 := fun M => fX7_meets M a0 a1) (fun M N σ h0 h1 h2 => j_meets h0 h1 h2) M h
  · exact zJ.comb (f6 := fun M => fX6_bestOrder M a0 a1 a2) (f7 := fun M => fX7_bestOrder M a0 a1 a2) (fun M N σ h0 h1 h2 => j_best h0 h1 h2) M h
  · exact zJ.comb (f6 := fun M => fX6_put M a0) (f7 := fun M => fX7_put M a0) (fun M N σ h0 h1 h2 => j_put h0 h1 h2) M h
  · exact zJ.comb (f6 := fun M => fX6_wipe M) (f7 := fun M => fX7_wipe M) (fun M N σ h0 h1 h2 => j_wipe h0 h1 h2) M h
  · exact zJ.comb (f6 := fun M => fX6_fault M) (f7 := fun M => fX7_fault M) (fun M N σ h0 h1 h2 => j_fault h0 h1 h2) M h
  · exact zJ.comb (f6 := fun M => fX6_undo M) (f7 := fun M => fX7_undo M) (fun M N σ h0 h1 h2 => j_undo h0 h1 h2) M h
  · exact zJ.comb (f6 := fun M => fX6_save M a0) (f7 := fun M => fX7_save M a0) (fun M N σ h0 h1 h2 => j_save h0 h1 h2) M h
  · exact zJ.comb (f6 := fun M => fX6_restore M a0) (f7 := fun M => fX7_restore M a0) (fun M N σ h0 h1 h2 => j_restore h0 h1 h2) M h
def zA0 : zA := fun _ _ => 0
theorem zA0_c (j : Nat) : zcA zM0 j = zA0 := by
  funext k p
  simp [zcA, zM0, zA0]
theorem zA0_r {f : Nat → Int32} (h : ∀ s, f s = 0) : zrA f = zA0 := by
  funext k p
  simp [zrA, h, zA0]
theorem zA0_ok : zok zA0 := by
  have e : zKn zA0 = 0 := rfl
  refine ⟨rfl, by rw [e]; omega, fun k hk => ?_⟩
  rw [e] at hk; omega
theorem z_inv0 : zInv zM0 := by
  refine ⟨(zA0, [], fun _ => zA0, fun _ => 0, []), ⟨zA0_ok, fun B hB => absurd hB (by simp), Nat.zero_le _, fun i _ => zA0_ok, fun i _ => Or.inl rfl, Nat.zero_le _, fun c hc => absurd hc (by simp)⟩, ⟨zA0_c 0, ⟨0, by omega, rfl, fun n hn => absurd hn (Nat.not_lt_zero n)⟩, rfl, fun i _ => ⟨zA0_c _, rfl⟩, rfl, fun q c hq => absurd hq (by simp)⟩, ⟨zA0_r fun _ => rfl, rfl, fun n hn => absurd hn (Nat.not_lt_zero n), fun i _ => ⟨zA0_r fun _ => rfl, rfl⟩, rfl, fun q c hq => absurd hq (by simp)⟩⟩
