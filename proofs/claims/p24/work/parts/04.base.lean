/-! ===== memory: every cell of the class and of the reference by kind, number and slot; the shapes are fixed ===== -/
abbrev zM : Type := Nat → Nat → Nat → Int32
def zw (M : zM) (k i s : Nat) (v : Int32) : zM := fun k' i' => if k' = k ∧ i' = i then upd (M k i) s v else M k' i'
theorem zw_at {M : zM} {k i s : Nat} {v : Int32} : zw M k i s v k i = upd (M k i) s v := by simp [zw]
theorem zw_ne {M : zM} {k i s k' i' : Nat} {v : Int32} (h : ¬ (k' = k ∧ i' = i)) : zw M k i s v k' i' = M k' i' := by simp [zw, h]
def zix (i : Int32) (n : Nat) : Bool := decide (0 ≤ i.toInt ∧ i.toInt < n)
theorem zix_in {i : Int32} {n : Nat} (h : zix i n = true) : vp_in i n := vp_in_iff.mpr (of_decide_eq_true h)
abbrev zN (i : Int32) : Nat := i.toNatClampNeg
theorem zix_lt {i : Int32} {n : Nat} (h : zix i n = true) : zN i < n := by
  have := of_decide_eq_true h
  show i.toInt.toNat < n
  omega
def zL {α ρ : Type} (v : α) (f : α → Option ρ) : Option ρ := f v
def zC {α ρ : Type} (o : Option (α × zM)) (f : α → zM → Option ρ) : Option ρ := match o with
  | some q => f q.1 q.2
  | none => none
def zI {ρ : Type} (i : Int32) (n : Nat) (f : Option ρ) : Option ρ := if zix i n = true then f else none
def zV {ρ : Type} (d : Int32) (f : Option ρ) : Option ρ := if d = 0 then none else f
def zB {ρ : Type} (b : Int32) (f : Option ρ) : Option ρ := if b = 0 ∨ b = 1 then f else none
theorem zC_out {α ρ : Type} {o : Option (α × zM)} {f : α → zM → Option ρ} {r : ρ} (h : zC o f = some r) : ∃ a M, o = some (a, M) ∧ f a M = some r := by
  cases o with
  | none => cases h
  | some q => exact ⟨q.1, q.2, rfl, h⟩
theorem zI_out {ρ : Type} {i : Int32} {n : Nat} {f : Option ρ} {r : ρ} (h : zI i n f = some r) : zix i n = true ∧ f = some r := by
  unfold zI at h
  split at h
  · next q => exact ⟨q, h⟩
  · cases h
theorem zV_out {ρ : Type} {d : Int32} {f : Option ρ} {r : ρ} (h : zV d f = some r) : ¬ d = 0 ∧ f = some r := by
  unfold zV at h
  split at h
  · cases h
  · next q => exact ⟨q, h⟩
theorem zB_out {ρ : Type} {b : Int32} {f : Option ρ} {r : ρ} (h : zB b f = some r) : (b = 0 ∨ b = 1) ∧ f = some r := by
  unfold zB at h
  split at h
  · next q => exact ⟨q, h⟩
  · cases h
theorem z_ct {α : Type} {C : Prop} {d : Decidable C} {A B r : α} (h : @ite α C d A B = r) (hc : C) : A = r := by rw [if_pos hc] at h; exact h
theorem z_cf {α : Type} {C : Prop} {d : Decidable C} {A B r : α} (h : @ite α C d A B = r) (hc : ¬ C) : B = r := by rw [if_neg hc] at h; exact h
/-! kinds: 0 KiteStrings, 1 Sky, 2..14 its rows, 15 Weave, 16..19 its rows, 20 Tick, 21 History, 22 its states, 23 Slot, 24 Pad, 25 its signs, 26 q, 27 ki, 28 a, 29 b, 30 me, 31 q2, 32 k2, 33 a2, 34 b2: the law's rows -/
def zcl : List Nat := [1, 10, 10, 10, 10, 10, 10, 10, 10, 10, 10, 10, 10, 10, 10, 2, 2, 2, 2, 2, 1, 1, 1, 2, 1, 1, 1, 1, 1, 1, 1, 1, 1, 1, 1]
def zcnt (k : Nat) : Nat := zcl.getD k 0
def zal : List (Option (Nat × Nat)) := [none, none, some (0, 6), some (0, 6), some (0, 6), some (0, 6), some (0, 6), some (0, 6), some (0, 6), some (0, 6), some (0, 6), some (0, 6), some (0, 6), some (0, 6), some (0, 192), none, some (0, 30), some (0, 30), some (0, 30), some (1, 30), none, none, none, none, none, some (2, 60), some (0, 4), some (0, 48), some (0, 64), some (0, 64), some (0, 16), some (0, 4), some (0, 48), some (0, 64), some (0, 64)]
def zarr (k : Nat) : Option (Nat × Nat) := zal.getD k none
def zci (k : Nat) : Nat := [6, 2, 0, 0, 0, 0, 0, 0, 0, 0, 0, 0, 0, 0, 0, 5, 0, 0, 0, 0, 4, 0, 0, 3, 1].getD k 0
abbrev zGeo : Type := (Nat → Nat → Nat) × va_G × (Nat → ClassId)
def zfs (ad : Nat → Nat → Nat) (k i : Nat) (r : Nat → Int32) : List Value := match k with
  | 0 => [.ref (ad 1 0), .ref (ad 1 1), .ref (ad 15 0), .ref (ad 20 0), .ref (ad 21 0), .ref (ad 23 0), .ref (ad 23 1), .ref (ad 24 0)]
  | 1 => [.int (r 0), .int (r 1), .int (r 2), .int (r 3), .ref (ad 2 i), .ref (ad 3 i), .ref (ad 4 i), .ref (ad 5 i), .ref (ad 6 i), .ref (ad 7 i), .ref (ad 8 i), .ref (ad 9 i), .ref (ad 10 i), .ref (ad 11 i), .ref (ad 12 i), .ref (ad 13 i), .ref (ad 14 i)]
  | 15 => [.ref (ad 16 i), .ref (ad 17 i), .ref (ad 18 i), .ref (ad 19 i), .int (r 4)]
  | 20 => [.ref (ad 15 1), .int (r 1), .int (r 2)]
  | 21 => [.ref (ad 22 0), .int (r 1), .int (r 2)]
  | 23 => [.ref (ad 1 (8 + i)), .int (r 1)]
  | 24 => [.ref (ad 25 0), .int (r 1)]
  | _ => []
def zent (g : zGeo) (k i : Nat) (r : Nat → Int32) : va_E := match zarr k with
  | some t => .inl (g.2.2 t.1, t.2, .inl r)
  | none => if k = 22 then .inl (g.2.2 3, 6, .inr (.inr (.inr (.inr (fun j => some (g.1 1 (2 + j))))))) else .inr (zci k, zfs g.1 k i r)
def zR (g : zGeo) (M : zM) (H : Heap) : Prop := ∀ k i, i < zcnt k → va_at g.2.1 vwCl (g.1 k i, zent g k i (M k i)) H
def zAd (g : zGeo) (z : Nat) : Prop := (∀ k i, i < zcnt k → z ≤ g.1 k i) ∧ ∀ k i k' i', i < zcnt k → i' < zcnt k' → g.1 k i = g.1 k' i' → k = k' ∧ i = i'
def zFt (t : Nat) : FieldType := [FieldType.int, .boolean, .char].getD t (.object "KiteStrings$Sky")
def zNests : List (String × Nat × MethodName × String) := [(RX2, 92, yX6_isWithin, "KiteStrings")]
def zK (g : zGeo) (U : State) : Prop := va_K g.2.1 vwCl [(g.2.2 0, .int), (g.2.2 1, .boolean), (g.2.2 2, .char), (g.2.2 3, .object "KiteStrings$Sky")] U ∧ (∀ w ∈ zT, va_Nw w U) ∧ ∀ q ∈ zNests, va_Nw (.methodLinkNest q.1 q.2.1 q.2.2.1 q.2.2.2) U
theorem zT_ok {w : Cond} (h : w ∈ zT) : (w.onTables && w.keeps) = true ∨ ∃ ty, w = .arrayClass ty := good_of_word (zT_good w h)
theorem zK.warm {g : zGeo} {s U : State} (hW : s.WarmedH U.vm) (h : zK g s) : zK g U :=
  ⟨va_K.moved hW.alike h.1, fun w hw => word_at hW (zT_ok hw) (h.2.1 w hw), fun q hq => va_Nw.warmM hW (h.2.2 q hq)⟩
theorem zK.same {g : zGeo} {u U : State} (hv : u.vm = U.vm) (h : zK g u) : zK g U := h.warm (by rw [← hv]; exact State.WarmedH.refl u)
theorem zFld_0 : ∀ w ∈ u_ws RX0 TX0 3, w ∈ zT := by decide +kernel
theorem zFld_1 : ∀ w ∈ u_ws RX1 TX1 2, w ∈ zT := by decide +kernel
theorem zFld_2 : ∀ w ∈ u_ws RX2 TX2 17, w ∈ zT := by decide +kernel
theorem zFld_3 : ∀ w ∈ u_ws RX3 TX3 2, w ∈ zT := by decide +kernel
theorem zFld_4 : ∀ w ∈ u_ws RX4 TX4 3, w ∈ zT := by decide +kernel
theorem zFld_5 : ∀ w ∈ u_ws RX5 TX5 5, w ∈ zT := by decide +kernel
theorem zFld_6 : ∀ w ∈ u_ws RX6 TX6 8, w ∈ zT := by decide +kernel
theorem zFld_in {ci : Nat} {C : String} {T : u_T} {N : Nat} (hc : vwCl[ci]? = some (C, T, N)) : ∀ w ∈ u_ws C T N, w ∈ zT := by
  match ci, hc with
  | 0, hc => cases hc; exact zFld_0
  | 1, hc => cases hc; exact zFld_1
  | 2, hc => cases hc; exact zFld_2
  | 3, hc => cases hc; exact zFld_3
  | 4, hc => cases hc; exact zFld_4
  | 5, hc => cases hc; exact zFld_5
  | 6, hc => cases hc; exact zFld_6
  | n + 7, hc => simp [vwCl] at hc
theorem zNest_1 : (RX2, 92, yX6_isWithin, "KiteStrings") ∈ zNests := List.mem_cons_self
theorem zgV {own : String} {idx : Nat} {C : String} {y : MethodName} {cc : ByteArray} {maxL : Nat} {ret : Option FieldType} (h1 : Cond.methodLink own idx y ∈ zT) (h : Cond.instanceMethod y ∈ zT ∧ Cond.selects C y y ∈ zT ∧ Cond.initialized C ∈ zT ∧ Cond.code y cc maxL ret ∈ zT) : GoodIn zT (wsV own idx C y [.code y cc maxL ret]) := by
  intro w hw
  have hm : w ∈ zT := by
    rcases List.mem_append.mp hw with hw | hw
    · simp only [List.mem_cons, List.not_mem_nil, or_false] at hw
      rcases hw with rfl | rfl | rfl | rfl
      · exact h1
      · exact h.1
      · exact h.2.1
      · exact h.2.2.1
    · simp only [List.mem_cons, List.not_mem_nil, or_false] at hw
      rw [hw]; exact h.2.2.2
  exact ⟨hm, zT_ok hm⟩
theorem zgS {own : String} {idx : Nat} {y : MethodName} {cc : ByteArray} {maxL : Nat} {ret : Option FieldType} (h1 : Cond.methodLink own idx y ∈ zT) (h : Cond.static y ∈ zT ∧ Cond.initialized y.cls ∈ zT ∧ Cond.code y cc maxL ret ∈ zT) : GoodIn zT (va_wsS own idx y [.code y cc maxL ret]) := by
  intro w hw
  have hm : w ∈ zT := by
    rcases List.mem_append.mp hw with hw | hw
    · simp only [List.mem_cons, List.not_mem_nil, or_false] at hw
      rcases hw with rfl | rfl | rfl
      · exact h1
      · exact h.1
      · exact h.2.1
    · simp only [List.mem_cons, List.not_mem_nil, or_false] at hw
      rw [hw]; exact h.2.2
  exact ⟨hm, zT_ok hm⟩
theorem zgN {y : MethodName} {cc : ByteArray} {maxL : Nat} {ret : Option FieldType} (h : Cond.code y cc maxL ret ∈ zT) : GoodIn zT [.code y cc maxL ret] := by
  intro w hw
  simp only [List.mem_cons, List.not_mem_nil, or_false] at hw
  rw [hw]
  exact ⟨h, zT_ok h⟩
theorem zL_out {α ρ : Type} {v : α} {f : α → Option ρ} {r : ρ} (h : zL v f = some r) : ∃ y, v = y ∧ f y = some r := ⟨v, rfl, h⟩
theorem z_ne {x v : Int32} (h : ¬ x = v) {n : Int} (hn : v.toInt = n) : x.toInt ≠ n := fun q => h (Int32.toInt_inj.mp (q.trans hn.symm))
def zabs (x : Int32) : Int32 := if 0 ≤ x then x else 0 - x
def zmin (x y : Int32) : Int32 := if y < x then y else x
theorem z_ty {ci : Nat} {C : String} {T : u_T} {N : Nat} (hc : vwCl[ci]? = some (C, T, N)) : ∃ ty : Nat → FieldType, (∀ k, k < N → parseFieldDescriptor (T k).2.2.1 = some (ty k)) ∧ ∀ a, a < N → ∀ b, b < N → a ≠ b → (T a).2.1 ≠ (T b).2.1 := by
  match ci, hc with
  | 0, hc => cases hc; exact ⟨_, tyX0_ok, nmX0⟩
  | 1, hc => cases hc; exact ⟨_, tyX1_ok, nmX1⟩
  | 2, hc => cases hc; exact ⟨_, tyX2_ok, nmX2⟩
  | 3, hc => cases hc; exact ⟨_, tyX3_ok, nmX3⟩
  | 4, hc => cases hc; exact ⟨_, tyX4_ok, nmX4⟩
  | 5, hc => cases hc; exact ⟨_, tyX5_ok, nmX5⟩
  | 6, hc => cases hc; exact ⟨_, tyX6_ok, nmX6⟩
  | n + 7, hc => simp [vwCl] at hc
abbrev zS (z : Nat) : Nat → Prop := fun q => z ≤ q
abbrev zPc (g : zGeo) (M : zM) (av : List Value) : Array Value → State → Prop := va_Pc av (fun U => zR g M U.heap ∧ zK g U)
abbrev zQi (g : zGeo) (z : Nat) (r : Int32) (M : zM) : Array Value → State → Outcome → State → Prop := va_Qi (fun (r' : Int32) (_ : Unit) => r' = r) (fun _ t => zR g M t.heap) (zS z)
abbrev zQv (g : zGeo) (z : Nat) (M : zM) : Array Value → State → Outcome → State → Prop := va_Qv (fun (_ : Unit) => True) (fun _ t => zR g M t.heap) (zS z)
abbrev zQr (g : zGeo) (z k n : Nat) (M : zM) : Array Value → State → Outcome → State → Prop := va_Qr (fun (_ : Unit) => n < zcnt k) (fun _ a t => a = g.1 k n ∧ zR g M t.heap) (zS z)
theorem zPc_blind {g : zGeo} {M : zM} {av : List Value} : FrameBlind (zPc g M av) := fun a U g' mk h => ⟨h.1, h.2.1, zK.same (u := U) (U := U.calling g' mk a) rfl h.2.2⟩
theorem z_enter {l : Launch} {g : zGeo} {z : Nat} {M : zM} {y : MethodName} {ws ws' : List Cond} {rm : Room} {av : List Value} {cc : ByteArray} {maxL : Nat} {ret : Option FieldType} {Qc : Array Value → State → Outcome → State → Prop} (hy : plainName y.cls = true) (hw : ws = Cond.code y cc maxL ret :: ws') (hlen : (lg_sl av).length ≤ maxL)
    (body : ∀ p e s m below meth c, CallFix p m c cc maxL s av.toArray zT y.cls → meth.sig.returnType = ret → meth.locks = false → zK g s → zR g M s.heap → va_S (zS z) s.heap s.heap [] → ∀ ls, lv_has ls maxL (lv_args 0 av) → W p l e rm s m av.toArray below meth c s.heap [] 0 0 (MQ below Qc av.toArray s 0 0 (zS z)) (F0 m 0 ls [])) : Met l y ws rm (zPc g M av) Qc 0 0 (zS z) := by
  refine Met.ofW (cc := cc) (maxL := maxL) (ret := ret) hy hw ?_
  intro p e s m args below meth c s₁ B hml hv
  obtain ⟨rfl, hR, hK⟩ := hv
  rw [lg_entry_eq]
  exact body p e s m below meth c ⟨B.exec, B.bytes, hml, findClass_of_methodNamed B.named, fun w hw => word_at (State.WarmedH.refl s) (zT_ok hw) (hK.2.1 w hw)⟩ B.returns B.notSynchronized hK hR va_S.rf _ (lv_entry av hlen)
theorem zR.set {g : zGeo} {z : Nat} {M M1 : zM} {H H1 : Heap} {k i : Nat} (hg : zAd g z) (hR : zR g M H) (hi : i < zcnt k) (he : va_at g.2.1 vwCl (g.1 k i, zent g k i (M1 k i)) H1) (oq : ∀ q : Nat, q ≠ g.1 k i → H1[q]? = H[q]?) (ho : ∀ k' i', ¬ (k' = k ∧ i' = i) → M1 k' i' = M k' i') : zR g M1 H1 := by
  intro k' i' hi'
  by_cases h : k' = k ∧ i' = i
  · obtain ⟨rfl, rfl⟩ := h
    exact he
  · rw [ho k' i' h]
    exact (hR k' i' hi').kept (oq _ (fun q => h (hg.2 k' i' k i hi' hi q)))
section ZR
variable {p : Program} {l : Launch} {e : Env} {R : Room} {s : State} {m : MethodId} {args : Array Value} {below : List Frame} {meth : Method} {c : Code} {H : Heap} {locs : List Loc} {cells slots : Nat} {Q : State → Prop} {pc : Nat} {ls : Array Slot} {rest : List Value} {g : zGeo} {M : zM} {z : Nat} {cc : ByteArray} {nL : Nat} {Ts : List Cond} {own : String} {ρ : Type} {res : ρ}
theorem z_nm {x : Int32} {f : Int32 → Option ρ} (hF : zL x f = some res) (kk : ∀ y, f y = some res → W p l e R s m args below meth c H locs cells slots Q (F0 m pc ls (.int y :: rest))) : W p l e R s m args below meth c H locs cells slots Q (F0 m pc ls (.int x :: rest)) := kk x hF
theorem z_nml {x : Int64} {f : Int64 → Option ρ} (hF : zL x f = some res) (kk : ∀ y, f y = some res → W p l e R s m args below meth c H locs cells slots Q (F0 m pc ls (.long y :: rest))) : W p l e R s m args below meth c H locs cells slots Q (F0 m pc ls (.long x :: rest)) := kk x hF
theorem z_get (S : CallFix p m c cc nL s args Ts own) (hK : zK g s) (hR : zR g M H) {k i ci f N index : Nat} {C : String} {T : u_T} {fs : List Value} {v : Value} (hi : i < zcnt k) (he : zent g k i (M k i) = .inr (ci, fs)) (hc : vwCl[ci]? = some (C, T, N)) (hf : f < N) (hl : Cond.fieldLink own index (T f).1 (T f).2.1 (T f).2.2.1 ∈ Ts) (hv : fs[f]? = some v) (hdg : decode cc pc = .ok (.getfield index, 3))
    (kk : W p l e R s m args below meth c H locs cells slots Q (F0 m (pc + 3) ls (v :: rest))) : W p l e R s m args below meth c H locs cells slots Q (F0 m pc ls (.ref (g.1 k i) :: rest)) := by
  have h := hR k i hi
  rw [he] at h
  obtain ⟨r, h1, cell, q1, q2, q3, q4⟩ := h
  have hr : r = (C, T, N) := Option.some.inj (h1.symm.trans hc)
  subst hr
  obtain ⟨hS, hfc, kC, hkC, hkind⟩ := hK.1.1 ci _ hc
  obtain ⟨cf, kf, fi, fd, hi2, hsl⟩ := hS f hf
  refine W.getf S.1 S.2.1 S.2.2.2.1 (S.2.2.2.2 _ hl) hi2 (u_facts hfc hkC (u_lays (args := #[]) hK.2.1 (zFld_in hc) hf) hi2).1 q1 (by rw [q3]; exact fun h => by cases h) (v := v) ?_ rfl rfl hdg kk
  rw [hsl, q4 f hf]
  simp [vp_V, hv]
theorem z_put (S : CallFix p m c cc nL s args Ts own) (hg : zAd g z) (hK : zK g s) (hR : zR g M H) (hS0 : va_S (zS z) s.heap H locs) {k i ci f N index : Nat} {C : String} {T : u_T} {fs : List Value} {x : Int32} {B : zM → Option ρ} (hF : zL (zw M k i f x) B = some res) (hi : i < zcnt k) (he : zent g k i (M k i) = .inr (ci, fs)) (he1 : zent g k i (upd (M k i) f x) = .inr (ci, fs.set f (.int x))) (hc : vwCl[ci]? = some (C, T, N)) (hf : f < N) (hl : Cond.fieldLink own index (T f).1 (T f).2.1 (T f).2.2.1 ∈ Ts) (hfin : (T f).2.2.2 = false) {ty : FieldType} (hd : parseFieldDescriptor (T f).2.2.1 = some ty) (hn : narrow ty (.int x) = .int x) (hfit : fits ty (.int x) = true) (hlen : f < fs.length) (hdg : decode cc pc = .ok (.putfield index, 3))
    (kk : ∀ (H1 : Heap) (locs1 : List Loc) (M1 : zM), zR g M1 H1 → va_S (zS z) s.heap H1 locs1 → B M1 = some res → W p l e R s m args below meth c H1 locs1 cells slots Q (F0 m (pc + 3) ls rest)) : W p l e R s m args below meth c H locs cells slots Q (F0 m pc ls (.int x :: .ref (g.1 k i) :: rest)) := by
  obtain ⟨ty0, hty, hnm⟩ := z_ty hc
  have hap := va_apart (own := own) (args := #[]) hK.2.1 (zFld_in hc) ty0 hty hnm hK.1 hc
  have h := hR k i hi
  rw [he] at h
  obtain ⟨r, h1, cell, q1, q2, q3, q4⟩ := h
  have hr : r = (C, T, N) := Option.some.inj (h1.symm.trans hc)
  subst hr
  obtain ⟨hS, hfc, kC, hkC, hkind⟩ := hK.1.1 ci _ hc
  obtain ⟨cf, kf, fi, fd, hi2, hsl⟩ := hS f hf
  have hlay := hK.2.1 _ (zFld_in hc _ (u_in_lay hf))
  unfold u_lay at hlay
  rw [if_neg (by rw [hfin]; decide)] at hlay
  have hst := (u_facts hfc hkC (u_lays (args := #[]) hK.2.1 (zFld_in hc) hf) hi2).1
  have h6 := u_store (args := #[]) hfc hkC hkind hlay hi2 hd hn hfit
  refine W.putK S.1 S.2.1 (f := fd) ⟨S.2.2.2.1, S.2.2.2.2 _ hl, ⟨_, _, _, hi2⟩, hst⟩ (by rw [q2]; exact h6) q1 q3 (by rw [hsl]; exact k2_hasslot (q4 f hf)) rfl rfl hdg fun H' e1 e2 e3 => ?_
  rw [hsl] at e1 ⊢
  refine kk H' _ (zw M k i f x) (hR.set hg hi ?_ e3 (fun k' i' h => zw_ne h)) (hS0.put e2 e3 (hg.1 k i hi)) hF
  rw [zw_at, he1]
  exact ⟨_, hc, t_OB.to (V := updV (vp_V fs) f (.int x)) ⟨_, e1, q2, q3, t_set q4 hap hf (.int x)⟩ (fun j _ => vp_updV_set hlen (.int x) j)⟩
theorem z_arr {k i t n : Nat} (hR : zR g M H) (hi : i < zcnt k) (ha : zarr k = some (t, n)) : H[g.1 k i]? = some (vp_cell (g.2.2 t) (n, .inl (M k i))) := by
  have h := hR k i hi
  unfold zent at h
  rw [ha] at h
  exact h
theorem z_alen (S : CallFix p m c cc nL s args Ts own) (hK : zK g s) (hR : zR g M H) {k i t n : Nat} {v : Int32} (hi : i < zcnt k) (ha : zarr k = some (t, n)) (ht : t < 3) (hv : Int32.ofNat n = v) (hdg : decode cc pc = .ok (.arraylength, 1))
    (kk : W p l e R s m args below meth c H locs cells slots Q (F0 m (pc + 1) ls (.int v :: rest))) : W p l e R s m args below meth c H locs cells slots Q (F0 m pc ls (.ref (g.1 k i) :: rest)) := by
  subst hv
  have hA : ∃ ty, ArrOfT s (g.2.2 t) ty := by
    match t, ht with
    | 0, _ => exact ⟨_, (hK.1.2 0 _ rfl).1⟩
    | 1, _ => exact ⟨_, (hK.1.2 1 _ rfl).1⟩
    | 2, _ => exact ⟨_, (hK.1.2 2 _ rfl).1⟩
  obtain ⟨ty, hA⟩ := hA
  exact W.alen (n := Int32.ofNat n) S.1 S.2.1 (z_arr hR hi ha) (hA n (fun j => .int (M k i j))) (by rw [vp_cell_i, arrV_size] <;> rfl) rfl rfl hdg kk
theorem z_iald (S : CallFix p m c cc nL s args Ts own) (hK : zK g s) (hR : zR g M H) {k i n : Nat} {j : Int32} {B : Option ρ} (hF : zI j n B = some res) (hi : i < zcnt k) (ha : zarr k = some (0, n)) (hdg : decode cc pc = .ok (.iaload, 1))
    (kk : B = some res → W p l e R s m args below meth c H locs cells slots Q (F0 m (pc + 1) ls (.int (M k i (zN j)) :: rest))) : W p l e R s m args below meth c H locs cells slots Q (F0 m pc ls (.int j :: .ref (g.1 k i) :: rest)) := by
  obtain ⟨hx, hF⟩ := zI_out hF
  exact W.iald (v := .int (M k i (zN j))) S.1 S.2.1 (z_arr hR hi ha) ((hK.1.2 0 _ rfl).1 n (fun j => .int (M k i j))) (fun q => by cases q) (by show ¬ (j < 0 ∨ (arrV _ _ _).slots.size ≤ _); rw [arrV_size]; exact zix_in hx) (by show (arrV _ _ _).slots[_]? = _; rw [arrV_read _ _ (zix_lt hx)]) rfl rfl hdg (kk hF)
theorem z_zald (S : CallFix p m c cc nL s args Ts own) (hK : zK g s) (hR : zR g M H) {k i n : Nat} {j : Int32} {B : Option ρ} (hF : zI j n B = some res) (hi : i < zcnt k) (ha : zarr k = some (1, n)) (hdg : decode cc pc = .ok (.baload, 1))
    (kk : B = some res → W p l e R s m args below meth c H locs cells slots Q (F0 m (pc + 1) ls (.int (M k i (zN j)) :: rest))) : W p l e R s m args below meth c H locs cells slots Q (F0 m pc ls (.int j :: .ref (g.1 k i) :: rest)) := by
  obtain ⟨hx, hF⟩ := zI_out hF
  exact W.zald (v := .int (M k i (zN j))) S.1 S.2.1 (z_arr hR hi ha) ((hK.1.2 1 _ rfl).1 n (fun j => .int (M k i j))) (fun q => by cases q) (by show ¬ (j < 0 ∨ (arrV _ _ _).slots.size ≤ _); rw [arrV_size]; exact zix_in hx) (by show (arrV _ _ _).slots[_]? = _; rw [arrV_read _ _ (zix_lt hx)]) rfl rfl hdg (kk hF)
theorem z_cald (S : CallFix p m c cc nL s args Ts own) (hK : zK g s) (hR : zR g M H) {k i n : Nat} {j : Int32} {B : Option ρ} (hF : zI j n B = some res) (hi : i < zcnt k) (ha : zarr k = some (2, n)) (hdg : decode cc pc = .ok (.caload, 1))
    (kk : B = some res → W p l e R s m args below meth c H locs cells slots Q (F0 m (pc + 1) ls (.int (M k i (zN j)) :: rest))) : W p l e R s m args below meth c H locs cells slots Q (F0 m pc ls (.int j :: .ref (g.1 k i) :: rest)) := by
  obtain ⟨hx, hF⟩ := zI_out hF
  exact W.cald (v := .int (M k i (zN j))) S.1 S.2.1 (z_arr hR hi ha) ((hK.1.2 2 _ rfl).1 n (fun j => .int (M k i j))) (fun q => by cases q) (by show ¬ (j < 0 ∨ (arrV _ _ _).slots.size ≤ _); rw [arrV_size]; exact zix_in hx) (by show (arrV _ _ _).slots[_]? = _; rw [arrV_read _ _ (zix_lt hx)]) rfl rfl hdg (kk hF)
theorem z_stored {k i t n j : Nat} {y : Int32} {H1 : Heap} (hg : zAd g z) (hR : zR g M H) (hi : i < zcnt k) (ha : zarr k = some (t, n)) (e1 : H1[g.1 k i]? = some ((vp_cell (g.2.2 t) (n, .inl (M k i))).setSlot j (.int y))) (oq : ∀ q : Nat, q ≠ g.1 k i → H1[q]? = H[q]?) : zR g (zw M k i j y) H1 := by
  refine hR.set hg hi ?_ oq (fun k' i' h => zw_ne h)
  rw [zw_at]
  unfold zent
  rw [ha]
  show H1[g.1 k i]? = some (vp_cell _ _)
  rw [e1]
  rw [vp_cell_i, vp_cell_i, arrV_store]
  congr 2
  funext q
  by_cases hq : q = j
  · subst hq
    simp [updV, upd]
  · simp [updV, upd, hq]
theorem z_iast (S : CallFix p m c cc nL s args Ts own) (hg : zAd g z) (hK : zK g s) (hR : zR g M H) (hS0 : va_S (zS z) s.heap H locs) {k i n : Nat} {j x : Int32} {B : zM → Option ρ} (hF : zI j n (zL (zw M k i (zN j) x) B) = some res) (hi : i < zcnt k) (ha : zarr k = some (0, n)) (hdg : decode cc pc = .ok (.iastore, 1))
    (kk : ∀ (H1 : Heap) (locs1 : List Loc) (M1 : zM), zR g M1 H1 → va_S (zS z) s.heap H1 locs1 → B M1 = some res → W p l e R s m args below meth c H1 locs1 cells slots Q (F0 m (pc + 1) ls rest)) : W p l e R s m args below meth c H locs cells slots Q (F0 m pc ls (.int x :: .int j :: .ref (g.1 k i) :: rest)) := by
  obtain ⟨hx, hF⟩ := zI_out hF
  refine W.iast S.1 S.2.1 (z_arr hR hi ha) ((hK.1.2 0 _ rfl).1 n (fun j => .int (M k i j))) (fun q => by cases q) (by show ¬ (j < 0 ∨ (arrV _ _ _).slots.size ≤ _); rw [arrV_size]; exact zix_in hx) rfl rfl hdg fun H1 e1 z1 oq => ?_
  exact kk H1 _ _ (z_stored hg hR hi ha e1 oq) (hS0.put z1 oq (hg.1 k i hi)) hF
theorem z_zast (S : CallFix p m c cc nL s args Ts own) (hg : zAd g z) (hK : zK g s) (hR : zR g M H) (hS0 : va_S (zS z) s.heap H locs) {k i n : Nat} {j x : Int32} {B : zM → Option ρ} (hF : zI j n (zL (zw M k i (zN j) (vp_nar .boolean x)) B) = some res) (hi : i < zcnt k) (ha : zarr k = some (1, n)) (hdg : decode cc pc = .ok (.bastore, 1))
    (kk : ∀ (H1 : Heap) (locs1 : List Loc) (M1 : zM), zR g M1 H1 → va_S (zS z) s.heap H1 locs1 → B M1 = some res → W p l e R s m args below meth c H1 locs1 cells slots Q (F0 m (pc + 1) ls rest)) : W p l e R s m args below meth c H locs cells slots Q (F0 m pc ls (.int x :: .int j :: .ref (g.1 k i) :: rest)) := by
  obtain ⟨hx, hF⟩ := zI_out hF
  refine W.zast S.1 S.2.1 (z_arr hR hi ha) ((hK.1.2 1 _ rfl).1 n (fun j => .int (M k i j))) (fun q => by cases q) (by show ¬ (j < 0 ∨ (arrV _ _ _).slots.size ≤ _); rw [arrV_size]; exact zix_in hx) rfl rfl hdg fun H1 e1 z1 oq => ?_
  exact kk H1 _ _ (z_stored hg hR hi ha e1 oq) (hS0.put z1 oq (hg.1 k i hi)) hF
theorem z_cast (S : CallFix p m c cc nL s args Ts own) (hg : zAd g z) (hK : zK g s) (hR : zR g M H) (hS0 : va_S (zS z) s.heap H locs) {k i n : Nat} {j x : Int32} {B : zM → Option ρ} (hF : zI j n (zL (zw M k i (zN j) (vp_nar .char x)) B) = some res) (hi : i < zcnt k) (ha : zarr k = some (2, n)) (hdg : decode cc pc = .ok (.castore, 1))
    (kk : ∀ (H1 : Heap) (locs1 : List Loc) (M1 : zM), zR g M1 H1 → va_S (zS z) s.heap H1 locs1 → B M1 = some res → W p l e R s m args below meth c H1 locs1 cells slots Q (F0 m (pc + 1) ls rest)) : W p l e R s m args below meth c H locs cells slots Q (F0 m pc ls (.int x :: .int j :: .ref (g.1 k i) :: rest)) := by
  obtain ⟨hx, hF⟩ := zI_out hF
  refine W.cast S.1 S.2.1 (z_arr hR hi ha) ((hK.1.2 2 _ rfl).1 n (fun j => .int (M k i j))) (fun q => by cases q) (by show ¬ (j < 0 ∨ (arrV _ _ _).slots.size ≤ _); rw [arrV_size]; exact zix_in hx) rfl rfl hdg fun H1 e1 z1 oq => ?_
  exact kk H1 _ _ (z_stored hg hR hi ha e1 oq) (hS0.put z1 oq (hg.1 k i hi)) hF
/-- the history's rows: states[j] is the sky 2 + j -/
theorem z_aald (S : CallFix p m c cc nL s args Ts own) (hK : zK g s) (hR : zR g M H) {j : Int32} {B : Option ρ} (hF : zI j 6 B = some res) (hdg : decode cc pc = .ok (.aaload, 1))
    (kk : 2 + zN j < 10 → B = some res → W p l e R s m args below meth c H locs cells slots Q (F0 m (pc + 1) ls (.ref (g.1 1 (2 + zN j)) :: rest))) : W p l e R s m args below meth c H locs cells slots Q (F0 m pc ls (.int j :: .ref (g.1 22 0) :: rest)) := by
  obtain ⟨hx, hF⟩ := zI_out hF
  have hlt := zix_lt hx
  have h : H[g.1 22 0]? = some (vp_cell (g.2.2 3) (6, .inr (.inr (.inr (.inr (fun j => some (g.1 1 (2 + j)))))))) := hR 22 0 (by decide)
  exact W.aald (v := .ref (g.1 1 (2 + zN j))) (ty := .object "KiteStrings$Sky") S.1 S.2.1 h ((hK.1.2 3 _ rfl).1 6 (fun j => .ref (g.1 1 (2 + j)))) rfl (fun q => by cases q) (by show ¬ (j < 0 ∨ (arrV _ _ _).slots.size ≤ _); rw [arrV_size]; exact zix_in hx) (by show (arrV _ _ _).slots[_]? = _; rw [arrV_read _ _ hlt]; rfl) rfl rfl hdg (kk (by omega) hF)
theorem z_alenq (S : CallFix p m c cc nL s args Ts own) (hK : zK g s) (hR : zR g M H) (hdg : decode cc pc = .ok (.arraylength, 1))
    (kk : W p l e R s m args below meth c H locs cells slots Q (F0 m (pc + 1) ls (.int 6 :: rest))) : W p l e R s m args below meth c H locs cells slots Q (F0 m pc ls (.ref (g.1 22 0) :: rest)) := by
  have h : H[g.1 22 0]? = some (vp_cell (g.2.2 3) (6, .inr (.inr (.inr (.inr (fun j => some (g.1 1 (2 + j)))))))) := hR 22 0 (by decide)
  exact W.alen (n := 6) S.1 S.2.1 h ((hK.1.2 3 _ rfl).1 6 (fun j => va_rf (some (g.1 1 (2 + j))))) (by rw [vp_cell_q, arrV_size] <;> rfl) rfl rfl hdg kk
theorem z_iret (S : CallFix p m c cc nL s args Ts own) (hr : meth.sig.returnType = some .int) (hlocks : meth.locks = false) (hR : zR g M H) (hS : va_S (zS z) s.heap H locs) {v r : Int32} {M' : zM} (hF : some (v, M) = some (r, M')) (hdg : decode cc pc = .ok (.ireturn, 1)) : W p l e R s m args below meth c H locs cells slots (MQ below (zQi g z r M') args s cells slots (zS z)) (F0 m pc ls [.int v]) := by
  cases hF
  exact W.iret S.1 S.2.1 hr (fun t ht hW => ⟨⟨v, (), rfl, rfl, by show zR g M t.heap; rw [ht]; exact hR⟩, hS.F ht⟩) hS.2.2 hdg hlocks
theorem z_zret (S : CallFix p m c cc nL s args Ts own) (hr : meth.sig.returnType = some .boolean) (hlocks : meth.locks = false) (hR : zR g M H) (hS : va_S (zS z) s.heap H locs) {v r : Int32} {M' : zM} (hF : zB v (some (v, M)) = some (r, M')) (hdg : decode cc pc = .ok (.ireturn, 1)) : W p l e R s m args below meth c H locs cells slots (MQ below (zQi g z r M') args s cells slots (zS z)) (F0 m pc ls [.int v]) := by
  obtain ⟨hb, hF⟩ := zB_out hF
  cases hF
  exact W.zret S.1 S.2.1 hr (by rcases hb with rfl | rfl <;> rfl) (fun t ht hW => ⟨⟨v, (), rfl, rfl, by show zR g M t.heap; rw [ht]; exact hR⟩, hS.F ht⟩) hS.2.2 hdg hlocks
theorem z_zretc (S : CallFix p m c cc nL s args Ts own) (hr : meth.sig.returnType = some .boolean) (hlocks : meth.locks = false) (hR : zR g M H) (hS : va_S (zS z) s.heap H locs) {v r : Int32} {M' : zM} (hb : v = 0 ∨ v = 1) (hF : some (v, M) = some (r, M')) (hdg : decode cc pc = .ok (.ireturn, 1)) : W p l e R s m args below meth c H locs cells slots (MQ below (zQi g z r M') args s cells slots (zS z)) (F0 m pc ls [.int v]) :=
  z_zret S hr hlocks hR hS (by unfold zB; rw [if_pos hb]; exact hF) hdg
theorem z_vret (S : CallFix p m c cc nL s args Ts own) (hr : meth.sig.returnType = none) (hlocks : meth.locks = false) (hR : zR g M H) (hS : va_S (zS z) s.heap H locs) {r : Unit} {M' : zM} (hF : some ((), M) = some (r, M')) (hdg : decode cc pc = .ok (.return_, 1)) : W p l e R s m args below meth c H locs cells slots (MQ below (zQv g z M') args s cells slots (zS z)) (F0 m pc ls []) := by
  cases hF
  exact W.vret S.1 S.2.1 hr (fun t ht hW => ⟨⟨(), rfl, trivial, by show zR g M t.heap; rw [ht]; exact hR⟩, hS.F ht⟩) hS.2.2 hdg hlocks
theorem z_aret (S : CallFix p m c cc nL s args Ts own) {ty : String} (hr : meth.sig.returnType = some (.object ty)) (hlocks : meth.locks = false) (hR : zR g M H) (hS : va_S (zS z) s.heap H locs) {k i r : Nat} {M' : zM} (hF : some (i, M) = some (r, M')) (hi : i < zcnt k) (hdg : decode cc pc = .ok (.areturn, 1)) : W p l e R s m args below meth c H locs cells slots (MQ below (zQr g z k r M') args s cells slots (zS z)) (F0 m pc ls [.ref (g.1 k i)]) := by
  cases hF
  exact W.aret S.1 S.2.1 hr (Or.inl ⟨_, rfl⟩) (Or.inr ⟨_, rfl⟩) (fun t ht hW => ⟨⟨(), g.1 k i, rfl, hi, rfl, by show zR g M t.heap; rw [ht]; exact hR⟩, hS.F ht⟩) hS.2.2 hdg hlocks
theorem z_recv (hK : zK g s) (hR : zR g M H) {k i ci N : Nat} {C : String} {T : u_T} {fs : List Value} (hi : i < zcnt k) (he : zent g k i (M k i) = .inr (ci, fs)) (hc : vwCl[ci]? = some (C, T, N)) : ∃ cellB : Cell, H[g.1 k i]? = some cellB ∧ cellB.vm.isStatics = false ∧ s.vm.findClass C = some cellB.cls := by
  have h := hR k i hi
  rw [he] at h
  obtain ⟨r, h1, cell, q1, q2, q3, q4⟩ := h
  have hr : r = (C, T, N) := Option.some.inj (h1.symm.trans hc)
  subst hr
  exact ⟨cell, q1, by rw [q3]; rfl, by rw [q2]; exact (hK.1.1 ci _ hc).2.1⟩
theorem z_pre (hK : zK g s) (hR : zR g M H) {av : List Value} : ∀ U : State, U.heap = H → s.WarmedH U.vm → zPc g M av av.toArray U := fun U hU hW => ⟨rfl, by rw [hU]; exact hR, hK.warm hW⟩
theorem z_goi {st : List Value} {a : Array Value} {o : Option (Int32 × zM)} {f : Int32 → zM → Option ρ} (hS : va_S (zS z) s.heap H locs) (hF : zC o f = some res) (hr : ∀ r M', o = some (r, M') → va_Run p l e R s m args below meth c H locs cells slots 0 0 (F0 m pc ls st) rest (zQi g z r M' a) (zS z))
    (kk : ∀ (r : Int32) (M' : zM) (H1 : Heap) (locs1 : List Loc), zR g M' H1 → va_S (zS z) s.heap H1 locs1 → f r M' = some res → W p l e R s m args below meth c H1 locs1 cells slots Q (F0 m (pc + 3) ls (.int r :: rest))) : W p l e R s m args below meth c H locs cells slots Q (F0 m pc ls st) := by
  obtain ⟨r, M', ho, hF⟩ := zC_out hF
  refine va_calli (hr r M' ho) hS (fun q _ h => h) (fun q h => h) (fun r1 u t H1 locs1 ht _ hw hB _ _ hS => ?_)
  subst hw
  rw [ht] at hB
  exact kk _ _ _ _ hB hS hF
theorem z_gov {st : List Value} {a : Array Value} {o : Option (Unit × zM)} {f : Unit → zM → Option ρ} (hS : va_S (zS z) s.heap H locs) (hF : zC o f = some res) (hr : ∀ r M', o = some (r, M') → va_Run p l e R s m args below meth c H locs cells slots 0 0 (F0 m pc ls st) rest (zQv g z M' a) (zS z))
    (kk : ∀ (M' : zM) (H1 : Heap) (locs1 : List Loc), zR g M' H1 → va_S (zS z) s.heap H1 locs1 → f () M' = some res → W p l e R s m args below meth c H1 locs1 cells slots Q (F0 m (pc + 3) ls rest)) : W p l e R s m args below meth c H locs cells slots Q (F0 m pc ls st) := by
  obtain ⟨r, M', ho, hF⟩ := zC_out hF
  refine va_callv (hr r M' ho) hS (fun q _ h => h) (fun q h => h) (fun u t H1 locs1 ht _ hw hB _ _ hS => ?_)
  rw [ht] at hB
  exact kk _ _ _ hB hS hF
theorem z_gor {k : Nat} {st : List Value} {a : Array Value} {o : Option (Nat × zM)} {f : Nat → zM → Option ρ} (hS : va_S (zS z) s.heap H locs) (hF : zC o f = some res) (hr : ∀ r M', o = some (r, M') → va_Run p l e R s m args below meth c H locs cells slots 0 0 (F0 m pc ls st) rest (zQr g z k r M' a) (zS z))
    (kk : ∀ (r : Nat) (M' : zM) (H1 : Heap) (locs1 : List Loc), r < zcnt k → zR g M' H1 → va_S (zS z) s.heap H1 locs1 → f r M' = some res → W p l e R s m args below meth c H1 locs1 cells slots Q (F0 m (pc + 3) ls (.ref (g.1 k r) :: rest))) : W p l e R s m args below meth c H locs cells slots Q (F0 m pc ls st) := by
  obtain ⟨r, M', ho, hF⟩ := zC_out hF
  refine va_callr (hr r M' ho) hS (fun q _ h => h) (fun q h => h) (fun u ra t H1 locs1 ht _ hw hB _ _ hS => ?_)
  obtain ⟨rfl, hB⟩ := hB
  rw [ht] at hB
  exact kk _ _ _ _ hw hB hS hF
theorem z_mabs (S : CallFix p m c cc nL s args Ts own) {lv : List (Nat × Value)} (hl : lv_has ls nL lv) {index : Nat} (hlink : (Cond.methodLink own index Lib.Math.abs.name).before args s = true) (hstat : (Cond.static Lib.Math.abs.name).before args s = true) (hini : (Cond.initialized "java/lang/Math").before args s = true) (hcode : (Cond.code Lib.Math.abs.name Lib.Math.abs.code 1 (some .int)).before args s = true)
    (hframes : 1 ≤ R.frames) (hlocals : (rest.map fun v => v.category).sum + 13 ≤ R.locals) (hc : cells ≤ R.cells) (hs : slots ≤ R.slots) {x : Int32} (hdg : decode cc pc = .ok (.invokestatic index, 3))
    (kk : W p l e R s m args below meth c H locs cells slots Q (F0 m (pc + 3) ls (.int (zabs x) :: rest))) : W p l e R s m args below meth c H locs cells slots Q (F0 m pc ls (.int x :: rest)) := va_mabs S.1 S.2.1 (S.2.2.1.trans hl.1.symm) S.2.2.2.1 hlink hstat hini hcode hframes hlocals hc hs hdg kk
theorem z_mmin (S : CallFix p m c cc nL s args Ts own) {lv : List (Nat × Value)} (hl : lv_has ls nL lv) {index : Nat} (hlink : (Cond.methodLink own index Lib.Math.min.name).before args s = true) (hstat : (Cond.static Lib.Math.min.name).before args s = true) (hini : (Cond.initialized "java/lang/Math").before args s = true) (hcode : (Cond.code Lib.Math.min.name Lib.Math.min.code 2 (some .int)).before args s = true)
    (hframes : 1 ≤ R.frames) (hlocals : (rest.map fun v => v.category).sum + 13 ≤ R.locals) (hc : cells ≤ R.cells) (hs : slots ≤ R.slots) {x y : Int32} (hdg : decode cc pc = .ok (.invokestatic index, 3))
    (kk : W p l e R s m args below meth c H locs cells slots Q (F0 m (pc + 3) ls (.int (zmin x y) :: rest))) : W p l e R s m args below meth c H locs cells slots Q (F0 m pc ls (.int y :: .int x :: rest)) := va_mmin S.1 S.2.1 (S.2.2.1.trans hl.1.symm) S.2.2.2.1 hlink hstat hini hcode hframes hlocals hc hs hdg kk
end ZR
def zall : List (Nat × Nat) := (List.range 35).flatMap (fun k => (List.range (zcnt k)).map (fun i => (k, i)))
theorem zall_nodup : zall.Nodup := by decide +kernel
theorem zall_mem {k i : Nat} (h : i < zcnt k) : (k, i) ∈ zall := by
  refine List.mem_flatMap.mpr ⟨k, List.mem_range.mpr ?_, List.mem_map.mpr ⟨i, List.mem_range.mpr h, rfl⟩⟩
  rcases Nat.lt_or_ge k 35 with q | q
  · exact q
  · have : zcnt k = 0 := by
      unfold zcnt
      rw [List.getD_eq_getElem?_getD, List.getElem?_eq_none (by show zcl.length ≤ k; exact q)]
      rfl
    omega
theorem zall_in {q : Nat × Nat} (h : q ∈ zall) : q.2 < zcnt q.1 := by
  obtain ⟨k, -, h⟩ := List.mem_flatMap.mp h
  obtain ⟨i, hi, rfl⟩ := List.mem_map.mp h
  exact List.mem_range.mp hi
def zws (g : zGeo) (M : zM) : va_W := zall.map (fun q => (g.1 q.1 q.2, zent g q.1 q.2 (M q.1 q.2)))
theorem zws_P {g : zGeo} {M : zM} {H : Heap} (hR : zR g M H) : va_P g.2.1 vwCl (zws g M) H := by
  intro p q hq
  unfold zws at hq
  rw [List.getElem?_map] at hq
  obtain ⟨r, hr, rfl⟩ := Option.map_eq_some_iff.mp hq
  exact hR _ _ (zall_in (List.mem_of_getElem? hr))
theorem zws_D {g : zGeo} {M : zM} {z : Nat} (hg : zAd g z) : va_D (zS z) (zws g M) := by
  refine ⟨fun i j p q hi hj hpq => ?_, fun p q hq => ?_⟩
  · unfold zws at hi hj
    rw [List.getElem?_map] at hi hj
    obtain ⟨a, ha, rfl⟩ := Option.map_eq_some_iff.mp hi
    obtain ⟨b, hb, rfl⟩ := Option.map_eq_some_iff.mp hj
    have h2 := hg.2 _ _ _ _ (zall_in (List.mem_of_getElem? ha)) (zall_in (List.mem_of_getElem? hb)) hpq
    have hab : a = b := Prod.ext h2.1 h2.2
    subst hab
    have hlt : i < zall.length := (List.getElem?_eq_some_iff.mp ha).1
    exact (List.getElem?_inj hlt zall_nodup).mp (ha.trans hb.symm)
  · unfold zws at hq
    rw [List.getElem?_map] at hq
    obtain ⟨r, hr, rfl⟩ := Option.map_eq_some_iff.mp hq
    exact hg.1 _ _ (zall_in (List.mem_of_getElem? hr))
def zcp (M : zM) (k i1 i2 : Nat) : zM := fun k' i' => if k' = k ∧ i' = i2 then M k i1 else M k' i'
theorem zcp_at {M : zM} {k i1 i2 : Nat} : zcp M k i1 i2 k i2 = M k i1 := by simp [zcp]
theorem zcp_ne {M : zM} {k i1 i2 k' i' : Nat} (h : ¬ (k' = k ∧ i' = i2)) : zcp M k i1 i2 k' i' = M k' i' := by simp [zcp, h]
theorem zcell_congr {cA : ClassId} {n : Nat} {f f' : Nat → Int32} (h : ∀ j, j < n → f j = f' j) : vp_cell cA (n, .inl f) = vp_cell cA (n, .inl f') := by
  rw [vp_cell_i, vp_cell_i]
  unfold arrV
  congr 1
  apply Array.ext
  · simp
  · intro i h1 h2
    simp only [Array.getElem_ofFn]
    rw [h i (by simpa using h1)]
theorem z_acopy {p : Program} {l : Launch} {e : Env} {R : Room} {s : State} {m : MethodId} {args : Array Value} {below : List Frame} {meth : Method} {c : Code} {H : Heap} {locs : List Loc} {cells slots : Nat} {Q : State → Prop} {pc : Nat} {ls : Array Slot} {rest : List Value} {g : zGeo} {M : zM} {z : Nat} {cc : ByteArray} {nL : Nat} {own : String} (S : CallFix p m c cc nL s args zT own) (hg : zAd g z) (hK : zK g s) (hR : zR g M H) (hS0 : va_S (zS z) s.heap H locs) {lv : List (Nat × Value)} (hl : lv_has ls nL lv) {index : Nat} (hlink : Cond.methodLink own index arraycopyName ∈ zT) (hnat : Cond.native arraycopyName ∈ zT) (hstat : Cond.static arraycopyName ∈ zT) (hini : Cond.initialized "java/lang/System" ∈ zT) {k i1 i2 n : Nat} (ha : zarr k = some (0, n)) (hn31 : n < 2 ^ 31) (h1 : i1 < zcnt k) (h2 : i2 < zcnt k) (hframes : 1 ≤ R.frames) (hlocals : (rest.map fun v => v.category).sum + (nativeFrameWords "java/lang/System" "arraycopy" 5 + 11) ≤ R.locals) (hdg : decode cc pc = .ok (.invokestatic index, 3))
    (kk : ∀ (H1 : Heap) (locs1 : List Loc), zR g (zcp M k i1 i2) H1 → va_S (zS z) s.heap H1 locs1 → W p l e R s m args below meth c H1 locs1 cells slots Q (F0 m (pc + 3) ls rest)) : W p l e R s m args below meth c H locs cells slots Q (F0 m pc ls (.int (nI n) :: .int 0 :: .ref (g.1 k i2) :: .int 0 :: .ref (g.1 k i1) :: rest)) := by
  obtain ⟨q1, hq1⟩ := List.getElem?_of_mem (zall_mem h1)
  obtain ⟨q2, hq2⟩ := List.getElem?_of_mem (zall_mem h2)
  have e1 : ∀ i, zent g k i (M k i) = .inl (g.2.2 0, n, .inl (M k i)) := fun i => by unfold zent; rw [ha]
  have w1 : (zws g M)[q1]? = some (g.1 k i1, .inl (g.2.2 0, n, .inl (M k i1))) := by
    unfold zws; rw [List.getElem?_map, hq1]; show some (g.1 k i1, zent g k i1 (M k i1)) = _; rw [e1]
  have w2 : (zws g M)[q2]? = some (g.1 k i2, .inl (g.2.2 0, n, .inl (M k i2))) := by
    unfold zws; rw [List.getElem?_map, hq2]; show some (g.1 k i2, zent g k i2 (M k i2)) = _; rw [e1]
  have hc : (nI n).toNatClampNeg = n := nI_clamp hn31
  refine va_copyi S.1 S.2.1 (S.2.2.1.trans hl.1.symm) S.2.2.2.1 (S.2.2.2.2 _ hlink) (S.2.2.2.2 _ hnat) (S.2.2.2.2 _ hstat) (S.2.2.2.2 _ hini) hK.1 (zws_P hR) (zws_D hg) hS0 q1 q2 0 0 w1 w2 rfl rfl rfl (by decide) (by decide) (nI_pos hn31) (by rw [hc]; show 0 + n ≤ n; omega) (by rw [hc]; show 0 + n ≤ n; omega) (fun i _ => rfl) hframes hlocals hdg (fun H1 locs1 hP1 hD1 hS1 => kk H1 locs1 ?_ hS1)
  intro k' i' hi'
  obtain ⟨q, hq⟩ := List.getElem?_of_mem (zall_mem hi')
  by_cases h : k' = k ∧ i' = i2
  · obtain ⟨rfl, rfl⟩ := h
    have hlt : q2 < (zws g M).length := (List.getElem?_eq_some_iff.mp w2).1
    have h3 := hP1 q2 _ (by rw [List.getElem?_set_self hlt])
    have h4 : H1[g.1 k' i']? = some (vp_cell (g.2.2 0) (n, .inl (va_cpy (M k' i1) (M k' i') (0 : Int32).toNatClampNeg (0 : Int32).toNatClampNeg (nI n).toNatClampNeg))) := h3
    unfold zent
    rw [ha, zcp_at]
    show H1[g.1 k' i']? = some (vp_cell (g.2.2 0) (n, .inl (M k' i1)))
    rw [h4, hc]
    refine congrArg some (zcell_congr (fun j hj => ?_))
    show va_cpy (M k' i1) (M k' i') 0 0 n j = _
    unfold va_cpy
    rw [if_pos ⟨Nat.zero_le _, by omega⟩]
    simp
  · rw [zcp_ne h]
    have hne : q2 ≠ q := by
      rintro rfl
      rw [hq] at hq2
      cases hq2
      exact h ⟨rfl, rfl⟩
    have h3 := hP1 q (g.1 k' i', zent g k' i' (M k' i')) (by
      rw [List.getElem?_set_ne hne]
      unfold zws
      rw [List.getElem?_map, hq]
      rfl)
    exact h3

/-! ===== what the law needs besides ===== -/
def zir (x y : Int32) : Int32 := x - x / y * y
theorem z_no {M M' : zM} (h : some ((0 : Int32), M) = some (1, M')) : False := absurd (show (0 : Int32) = 1 from congrArg Prod.fst (Option.some.inj h)) (by decide)
def fL_cell (M : zM) (xs : Nat → Int32) (L : Nat) (k : Int32) : Option (Int32 × zM) :=
  if Int32.ofNat L ≤ k then some (934925793 * (k + 1) + 1248604035, M) else if 0 ≤ k then some (xs (zN k), M) else none
abbrev zPx (g : zGeo) (M : zM) (b L : Nat) (xs : Nat → Int32) (av : List Value) : Array Value → State → Prop := va_Pc av (fun U => zR g M U.heap ∧ zK g U ∧ va_X b L xs U U.heap)
theorem zPx_blind {g : zGeo} {M : zM} {b L : Nat} {xs : Nat → Int32} {av : List Value} : FrameBlind (zPx g M b L xs av) := fun a U g' mk h => ⟨h.1, h.2.1, zK.same (u := U) (U := U.calling g' mk a) rfl h.2.2.1, h.2.2.2⟩
theorem z_prex {g : zGeo} {s : State} {H : Heap} {M : zM} {b L : Nat} {xs : Nat → Int32} (hK : zK g s) (hR : zR g M H) (hX : va_X b L xs s H) {av : List Value} : ∀ U : State, U.heap = H → s.WarmedH U.vm → zPx g M b L xs av av.toArray U := fun U hU hW => ⟨rfl, by rw [hU]; exact hR, hK.warm hW, by rw [hU]; exact hX.moved hW.alike⟩
section ZX
variable {p : Program} {l : Launch} {e : Env} {R : Room} {s : State} {m : MethodId} {args : Array Value} {below : List Frame} {meth : Method} {c : Code} {H : Heap} {locs : List Loc} {cells slots : Nat} {Q : State → Prop} {pc : Nat} {ls : Array Slot} {rest : List Value} {cc : ByteArray}
theorem z_irem (hexec : p.tables.exec = Jvm.exec) (hb : c.code = cc) {x y : Int32} (hdg : decode cc pc = .ok (.irem, 1)) (hne : ¬ y = 0)
    (k : W p l e R s m args below meth c H locs cells slots Q (F0 m (pc + 1) ls (.int (zir x y) :: rest))) : W p l e R s m args below meth c H locs cells slots Q (F0 m pc ls (.int y :: .int x :: rest)) := lv_irem hexec hb hdg hne k
end ZX
