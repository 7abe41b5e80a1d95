theorem dX3_init_0 : decode cX3_init 0 = .ok (.aload_n 0, 1) := by decide +kernel
theorem dX3_init_1 : decode cX3_init 1 = .ok (.invokespecial 1, 3) := by decide +kernel
theorem dX3_init_4 : decode cX3_init 4 = .ok (.aload_n 0, 1) := by decide +kernel
theorem dX3_init_5 : decode cX3_init 5 = .ok (.new 7, 3) := by decide +kernel
theorem dX3_init_8 : decode cX3_init 8 = .ok (.dup, 1) := by decide +kernel
theorem dX3_init_9 : decode cX3_init 9 = .ok (.invokespecial 9, 3) := by decide +kernel
theorem dX3_init_12 : decode cX3_init 12 = .ok (.putfield 10, 3) := by decide +kernel
theorem dX3_init_15 : decode cX3_init 15 = .ok (.return_, 1) := by decide +kernel
/-! ===== the constructors: the new cells lie one behind another from a on ===== -/
def zKc (g : zGeo) (U : State) : Prop := zK g U ∧ va_AO "KiteStrings$Sky" U
theorem zKc.warm {g : zGeo} {s U : State} (hW : s.WarmedH U.vm) (h : zKc g s) : zKc g U := ⟨h.1.warm hW, h.2.moved hW.alike⟩
theorem zKc.same {g : zGeo} {u U : State} (hv : u.vm = U.vm) (h : zKc g u) : zKc g U := h.warm (by rw [← hv]; exact State.WarmedH.refl u)
def zSeg (g : zGeo) (a : Nat) (es : List va_E) (H : Heap) : Prop := H.size = a + es.length ∧ ∀ (c : Nat) (e : va_E), es[c]? = some e → va_at g.2.1 vwCl (a + c, e) H
theorem zSeg.push {g : zGeo} {a : Nat} {es : List va_E} {e : va_E} {H H1 : Heap} (hE : zSeg g a es H) (hz : H1.size = H.size + 1) (ho : ∀ q : Nat, q < H.size → H1[q]? = H[q]?) (he : va_at g.2.1 vwCl (a + es.length, e) H1) : zSeg g a (es ++ [e]) H1 := by
  refine ⟨by rw [hz, hE.1, List.length_append]; rfl, fun c e' hc => ?_⟩
  rcases Nat.lt_or_ge c es.length with q | q
  · rw [List.getElem?_append_left q] at hc
    exact (hE.2 c e' hc).kept (ho _ (by rw [hE.1]; exact Nat.add_lt_add_left q a))
  · rw [List.getElem?_append_right q] at hc
    have h0 : c - es.length < 1 := (List.getElem?_eq_some_iff.mp hc).1
    have h1 : c = es.length := by omega
    subst h1
    rw [Nat.sub_self] at hc
    cases hc
    exact he
theorem zSeg.set {g : zGeo} {a c : Nat} {es : List va_E} {e0 e : va_E} {H H1 : Heap} (hE : zSeg g a es H) (hc : es[c]? = some e0) (hz : H1.size = H.size) (ho : ∀ q : Nat, q ≠ a + c → H1[q]? = H[q]?) (he : va_at g.2.1 vwCl (a + c, e) H1) : zSeg g a (es.set c e) H1 := by
  have hlt : c < es.length := (List.getElem?_eq_some_iff.mp hc).1
  refine ⟨by rw [hz, hE.1, List.length_set], fun c' e' h => ?_⟩
  by_cases hq : c = c'
  · subst hq
    rw [List.getElem?_set_self hlt] at h
    cases h
    exact he
  · rw [List.getElem?_set_ne hq] at h
    exact (hE.2 c' e' h).kept (ho _ (by omega))
theorem zSeg.call {g : zGeo} {a b : Nat} {es ns : List va_E} {e : va_E} {H H1 : Heap} (hE : zSeg g a (es ++ [e]) H) (hb : a + es.length = b) (ho : ∀ q : Nat, q < H.size → ¬ b ≤ q → H1[q]? = H[q]?) (hN : zSeg g b ns H1) : zSeg g a (es ++ ns) H1 := by
  refine ⟨by rw [hN.1, List.length_append]; omega, fun c e' hc => ?_⟩
  rcases Nat.lt_or_ge c es.length with q | q
  · rw [List.getElem?_append_left q] at hc
    refine (hE.2 c e' (by rw [List.getElem?_append_left q]; exact hc)).kept (ho _ ?_ (by show ¬ b ≤ a + c; omega))
    rw [hE.1, List.length_append]
    show a + c < _
    omega
  · rw [List.getElem?_append_right q] at hc
    have h := hN.2 _ _ hc
    rw [show b + (c - es.length) = a + c by omega] at h
    exact h
theorem zSeg.last {g : zGeo} {a b : Nat} {es : List va_E} {e : va_E} {H : Heap} (hE : zSeg g a (es ++ [e]) H) (hb : a + es.length = b) : zSeg g b [e] H := by
  refine ⟨by rw [hE.1, List.length_append]; show a + (es.length + 1) = b + 1; omega, fun c e' hc => ?_⟩
  have h0 : c < 1 := (List.getElem?_eq_some_iff.mp hc).1
  have h1 : c = 0 := by omega
  subst h1
  have h := hE.2 es.length e' (by rw [List.getElem?_append_right (Nat.le_refl _), Nat.sub_self]; exact hc)
  rw [hb] at h
  exact h
abbrev zPi (g : zGeo) (a : Nat) (es : List va_E) : Array Value → State → Prop := va_Pc [.ref a] (fun U => zSeg g a es U.heap ∧ zKc g U)
abbrev zQn (g : zGeo) (a : Nat) (es : List va_E) : Array Value → State → Outcome → State → Prop := va_Qv (fun (_ : Unit) => True) (fun _ t => zSeg g a es t.heap) (zS a)
theorem zPi_blind {g : zGeo} {a : Nat} {es : List va_E} : FrameBlind (zPi g a es) := fun b U g' mk h => ⟨h.1, h.2.1, zKc.same (u := U) (U := U.calling g' mk b) rfl h.2.2⟩
theorem zi_enter {l : Launch} {g : zGeo} {a : Nat} {es : List va_E} {y : MethodName} {ws ws' : List Cond} {rm : Room} {cc : ByteArray} {maxL : Nat} {Qc : Array Value → State → Outcome → State → Prop} {mc ms : Nat} (hy : plainName y.cls = true) (hw : ws = Cond.code y cc maxL none :: ws') (hn : y.name = "<init>") (hlen : 1 ≤ maxL)
    (body : ∀ p e s m below meth c, CallFix p m c cc maxL s #[Value.ref a] zT y.cls → meth.sig.returnType = none → meth.locks = false → meth.name = "<init>" → zKc g s → zSeg g a es s.heap → va_S (zS a) s.heap s.heap [] → ∀ ls, lv_has ls maxL [(0, .ref a)] → W p l e rm s m #[Value.ref a] below meth c s.heap [] 0 0 (MQ below Qc #[Value.ref a] s mc ms (zS a)) (F0 m 0 ls [])) : Met l y ws rm (zPi g a es) Qc mc ms (zS a) := by
  refine Met.ofW (cc := cc) (maxL := maxL) (ret := none) hy hw ?_
  intro p e s m args below meth c s₁ B hml hv
  obtain ⟨rfl, hE, hK⟩ := hv
  rw [lg_entry_eq]
  have hl := lv_entry ([.ref a]) (n := maxL) (by show 1 ≤ maxL; exact hlen)
  exact body p e s m below meth c ⟨B.exec, B.bytes, hml, findClass_of_methodNamed B.named, fun w hw => word_at (State.WarmedH.refl s) (zT_ok hw) (hK.1.2.1 w hw)⟩ B.returns B.notSynchronized ((name_of_methodNamed B.named B.method).1.trans hn) hK hE va_S.rf _ hl
section ZI
variable {p : Program} {l : Launch} {e : Env} {R : Room} {s : State} {m : MethodId} {args : Array Value} {below : List Frame} {meth : Method} {c : Code} {H : Heap} {locs : List Loc} {cells slots : Nat} {Q : State → Prop} {pc : Nat} {ls : Array Slot} {rest : List Value} {g : zGeo} {a a0 : Nat} {es : List va_E} {cc : ByteArray} {nL : Nat} {own : String}
theorem zs_grow {H0 H H1 : Heap} {A : Nat → Prop} (hS : va_S A H0 H locs) (hz : H1.size = H.size + 1) (ho : ∀ q : Nat, q < H.size → H1[q]? = H[q]?) : va_S A H0 H1 locs :=
  ⟨Nat.le_trans hS.1 (by omega), fun x h1 h2 => (ho x (Nat.lt_of_lt_of_le h1 hS.1)).trans (hS.2.1 x h1 h2), hS.2.2⟩
theorem zs_new (S : CallFix p m c cc nL s args zT own) (hK : zKc g s) (hE : zSeg g a es H) (hS : va_S (zS a0) s.heap H locs) {C : String} {T : u_T} {N ci index : Nat} (hc : vwCl[ci]? = some (C, T, N)) (hcl : Cond.classLink own index C ∈ zT) (hin : Cond.instantiable C N ∈ zT) (hini : Cond.initialized C ∈ zT) {fs : List Value} (ty : Nat → FieldType) (hty : ∀ k, k < N → parseFieldDescriptor (T k).2.2.1 = some (ty k)) (hfs : ∀ j, j < N → defaultValue (ty j) = vp_V fs j) {b : Nat} (hb : a + es.length = b) (hcells : cells + 1 ≤ R.cells) (hslots : slots + N ≤ R.slots) (hdg : decode cc pc = .ok (.new index, 3))
    (kk : ∀ H1 : Heap, zSeg g a (es ++ [.inr (ci, fs)]) H1 → va_S (zS a0) s.heap H1 locs → W p l e R s m args below meth c H1 locs (cells + 1) (slots + N) Q (F0 m (pc + 3) ls (.ref b :: rest))) : W p l e R s m args below meth c H locs cells slots Q (F0 m pc ls rest) := by
  have hKn := hK.1.1.1 ci _ hc
  refine W.newcK S.1 S.2.1 S.2.2.2.1 (S.2.2.2.2 _ hcl) (S.2.2.2.2 _ hin) (S.2.2.2.2 _ hini) rfl hdg hcells hslots hKn.2.1 (h := b) (by rw [hE.1]; exact hb) fun H1 kC hkC e1 z1 o1 => ?_
  have hz : H1.size = H.size + 1 := by rw [z1, hE.1, hb]
  have ho : ∀ q : Nat, q < H.size → H1[q]? = H[q]? := fun q hq => o1 q (by rw [hE.1, hb] at hq; exact hq)
  refine kk H1 (hE.push hz ho ?_) (zs_grow hS hz ho)
  rw [hb]
  exact ⟨_, hc, (u_born (args := #[]) ty hK.1.2.1 (zFld_in hc) hKn hkC e1 hty).to hfs⟩
theorem zs_newa (S : CallFix p m c cc nL s args zT own) (hK : zKc g s) (hE : zSeg g a es H) (hS : va_S (zS a0) s.heap H locs) {atype : ArrayType} {t : Nat} (harr : Cond.arrayClass (newarray.typeOf atype) ∈ zT) (hcls : s.vm.findClass ("[" ++ (newarray.typeOf atype).toString) = some (g.2.2 t)) (hdef : defaultValue (newarray.typeOf atype) = .int 0) {n : Int32} {N : Nat} (hn : ¬ n < 0) (hN : n.toNatClampNeg = N) (hbytes : N * componentBytes (newarray.typeOf atype) ≤ 536870912) {b : Nat} (hb : a + es.length = b) (hcells : cells + 1 ≤ R.cells) (hslots : slots + N ≤ R.slots) (hdg : decode cc pc = .ok (.newarray atype, 2))
    (kk : ∀ H1 : Heap, zSeg g a (es ++ [.inl (g.2.2 t, N, .inl (fun _ => 0))]) H1 → va_S (zS a0) s.heap H1 locs → W p l e R s m args below meth c H1 locs (cells + 1) (slots + N) Q (F0 m (pc + 2) ls (.ref b :: rest))) : W p l e R s m args below meth c H locs cells slots Q (F0 m pc ls (.int n :: rest)) := by
  refine va_newaK S.1 S.2.1 (S.2.2.2.2 _ harr) rfl hdg rfl hn hN hbytes hcells hslots (h := b) (by rw [hE.1]; exact hb) fun H1 cA e1 z1 o1 _ hcA => ?_
  cases hcA.symm.trans hcls
  have hz : H1.size = H.size + 1 := by rw [z1, hE.1, hb]
  have ho : ∀ q : Nat, q < H.size → H1[q]? = H[q]? := fun q hq => o1 q (by rw [hE.1, hb] at hq; exact hq)
  refine kk H1 (hE.push hz ho ?_) (zs_grow hS hz ho)
  rw [hb]
  show H1[b]? = some (vp_cell _ _)
  rw [e1, vp_cell_i, hdef]
theorem zs_newq (S : CallFix p m c cc nL s args zT own) (hK : zKc g s) (hE : zSeg g a es H) (hS : va_S (zS a0) s.heap H locs) {index : Nat} (hcl : Cond.classLink own index "KiteStrings$Sky" ∈ zT) {n : Int32} {N : Nat} (hn : ¬ n < 0) (hN : n.toNatClampNeg = N) (hbytes : N * 4 ≤ 536870912) {b : Nat} (hb : a + es.length = b) (hcells : cells + 1 ≤ R.cells) (hslots : slots + N ≤ R.slots) (hdg : decode cc pc = .ok (.anewarray index, 3))
    (kk : ∀ H1 : Heap, zSeg g a (es ++ [.inl (g.2.2 3, N, .inr (.inr (.inr (.inr (fun _ => none)))))]) H1 → va_S (zS a0) s.heap H1 locs → W p l e R s m args below meth c H1 locs (cells + 1) (slots + N) Q (F0 m (pc + 3) ls (.ref b :: rest))) : W p l e R s m args below meth c H locs cells slots Q (F0 m pc ls (.int n :: rest)) := by
  subst hN
  have hHb : H.size = b := by rw [hE.1]; exact hb
  subst hHb
  refine W.anew S.1 S.2.1 S.2.2.2.1 (S.2.2.2.2 _ hcl) (va_AO.use hK.2) rfl hdg rfl hn hbytes hcells hslots fun cA kA comp f1 f2 f3 f4 => ?_
  obtain ⟨kA', comp', -, -, -, f5⟩ := (hK.1.1.2 3 _ rfl).2
  cases f1.symm.trans f5
  generalize hH1 : H.push ({ cls := g.2.2 3, slots := Array.replicate n.toNatClampNeg .null, vm := .none } : Cell) = H1
  have z1 : H1.size = H.size + 1 := by rw [← hH1, Array.size_push]
  have e1 : H1[H.size]? = some (arrV (g.2.2 3) n.toNatClampNeg (fun _ => .null)) := by rw [← hH1, Array.getElem?_push_size, ← arrV_new]
  have o1 : ∀ q : Nat, q < H.size → H1[q]? = H[q]? := fun q hq => by rw [← hH1, Array.getElem?_push, if_neg (Nat.ne_of_lt hq)]
  refine kk H1 (hE.push z1 o1 ?_) (zs_grow hS z1 o1)
  rw [hb]
  exact e1
theorem zs_put (S : CallFix p m c cc nL s args zT own) (hK : zKc g s) (hE : zSeg g a es H) (hS0 : va_S (zS a0) s.heap H locs) (ha : a0 ≤ a) (hin2 : meth.name = "<init>") {k ci f N index b : Nat} {C : String} {T : u_T} {fs : List Value} {v : Value} (hb : a + k = b) (he : es[k]? = some (.inr (ci, fs))) (hc : vwCl[ci]? = some (C, T, N)) (hf : f < N) (hl : Cond.fieldLink own index (T f).1 (T f).2.1 (T f).2.2.1 ∈ zT) (hfin : (T f).2.2.2 = true) (hdecl : (T f).1 = own) {ty : FieldType} (hd : parseFieldDescriptor (T f).2.2.1 = some ty) (hn : narrow ty v = v) (hfit : fits ty v = true) (hlen : f < fs.length) (hdg : decode cc pc = .ok (.putfield index, 3))
    (kk : ∀ (H1 : Heap) (locs1 : List Loc), zSeg g a (es.set k (.inr (ci, fs.set f v))) H1 → va_S (zS a0) s.heap H1 locs1 → W p l e R s m args below meth c H1 locs1 cells slots Q (F0 m (pc + 3) ls rest)) : W p l e R s m args below meth c H locs cells slots Q (F0 m pc ls (v :: .ref b :: rest)) := by
  subst hb
  obtain ⟨ty0, hty, hnm⟩ := z_ty hc
  have hap := va_apart (own := own) (args := #[]) hK.1.2.1 (zFld_in hc) ty0 hty hnm hK.1.1 hc
  obtain ⟨r, h1, cell, q1, q2, q3, q4⟩ := hE.2 k _ he
  have hr : r = (C, T, N) := Option.some.inj (h1.symm.trans hc)
  subst hr
  obtain ⟨hS, hfc, kC, hkC, hkind⟩ := hK.1.1.1 ci _ hc
  obtain ⟨cf, kf, fi, fd, hi2, hsl⟩ := hS f hf
  have hlay := hK.1.2.1 _ (zFld_in hc _ (u_in_lay hf))
  unfold u_lay at hlay
  rw [if_pos hfin] at hlay
  have hst := (u_facts hfc hkC (u_lays (args := #[]) hK.1.2.1 (zFld_in hc) hf) hi2).1
  have hcf : m.cls = cf := by
    obtain ⟨_, _, c', _, _, _, -, -, hf', -, -, -, hown2, -⟩ := Cond.laysFinal_spec hlay
    have e1 : c' = cf := by have := hi2.symm.trans hf'; simp at this; exact this.1.symm
    rw [hdecl] at hown2
    rw [← e1]; exact Option.some.inj (S.2.2.2.1.symm.trans hown2)
  have h6 := u_fits (args := #[]) hfc hkC hkind (Or.inr hlay) hi2 hd hn hfit
  refine W.putFinK S.1 S.2.1 S.2.2.2.1 (S.2.2.2.2 _ hl) hi2 hst hcf hin2 (by rw [q2]; exact h6) q1 q3 (by rw [hsl]; exact k2_hasslot (q4 f hf)) rfl rfl hdg fun H' e1 e2 e3 => ?_
  rw [hsl] at e1 ⊢
  exact kk H' _ (hE.set he e2 e3 ⟨_, hc, t_OB.to (V := updV (vp_V fs) f v) ⟨_, e1, q2, q3, t_set q4 hap hf v⟩ (fun j _ => vp_updV_set hlen v j)⟩) (hS0.put e2 e3 (by show a0 ≤ a + k; omega))
theorem zs_get (S : CallFix p m c cc nL s args zT own) (hK : zKc g s) (hE : zSeg g a es H) {k ci f N index b : Nat} {C : String} {T : u_T} {fs : List Value} {v : Value} (hb : a + k = b) (he : es[k]? = some (.inr (ci, fs))) (hc : vwCl[ci]? = some (C, T, N)) (hf : f < N) (hl : Cond.fieldLink own index (T f).1 (T f).2.1 (T f).2.2.1 ∈ zT) (hv : fs[f]? = some v) (hdg : decode cc pc = .ok (.getfield index, 3))
    (kk : W p l e R s m args below meth c H locs cells slots Q (F0 m (pc + 3) ls (v :: rest))) : W p l e R s m args below meth c H locs cells slots Q (F0 m pc ls (.ref b :: rest)) := by
  subst hb
  obtain ⟨r, h1, cell, q1, q2, q3, q4⟩ := hE.2 k _ he
  have hr : r = (C, T, N) := Option.some.inj (h1.symm.trans hc)
  subst hr
  obtain ⟨hS, hfc, kC, hkC, hkind⟩ := hK.1.1.1 ci _ hc
  obtain ⟨cf, kf, fi, fd, hi2, hsl⟩ := hS f hf
  refine W.getf S.1 S.2.1 S.2.2.2.1 (S.2.2.2.2 _ hl) hi2 (u_facts hfc hkC (u_lays (args := #[]) hK.1.2.1 (zFld_in hc) hf) hi2).1 q1 (by rw [q3]; exact fun h => by cases h) (v := v) ?_ rfl rfl hdg kk
  rw [hsl, q4 f hf]
  simp [vp_V, hv]
theorem zs_iast (S : CallFix p m c cc nL s args zT own) (hK : zKc g s) (hE : zSeg g a es H) (hS0 : va_S (zS a0) s.heap H locs) (ha : a0 ≤ a) {k n b : Nat} {f : Nat → Int32} {j x : Int32} (hb : a + k = b) (he : es[k]? = some (.inl (g.2.2 0, n, .inl f))) (hx : zix j n = true) (hdg : decode cc pc = .ok (.iastore, 1))
    (kk : ∀ (H1 : Heap) (locs1 : List Loc), zSeg g a (es.set k (.inl (g.2.2 0, n, .inl (upd f (zN j) x)))) H1 → va_S (zS a0) s.heap H1 locs1 → W p l e R s m args below meth c H1 locs1 cells slots Q (F0 m (pc + 1) ls rest)) : W p l e R s m args below meth c H locs cells slots Q (F0 m pc ls (.int x :: .int j :: .ref b :: rest)) := by
  subst hb
  refine W.iast S.1 S.2.1 (hE.2 k _ he) ((hK.1.1.2 0 _ rfl).1 n (fun j => .int (f j))) (fun q => by cases q) (by show ¬ (j < 0 ∨ (arrV _ _ _).slots.size ≤ _); rw [arrV_size]; exact zix_in hx) rfl rfl hdg fun H1 e1 z1 oq => ?_
  refine kk H1 _ (hE.set he z1 oq ?_) (hS0.put z1 oq (by show a0 ≤ a + k; omega))
  show H1[a + k]? = some (vp_cell _ _)
  rw [e1]
  rw [vp_cell_i, vp_cell_i, arrV_store]
  congr 2
  funext q
  by_cases hq : q = j.toNatClampNeg
  · subst hq
    simp [updV, upd]
  · simp [updV, upd, hq]
theorem zs_aast (S : CallFix p m c cc nL s args zT own) (hK : zKc g s) (hE : zSeg g a es H) (hS0 : va_S (zS a0) s.heap H locs) (ha : a0 ≤ a) {k qk n b b2 : Nat} {f : Nat → Option Nat} {vs : List Value} {j : Int32} (hb : a + k = b) (hb2 : a + qk = b2) (he : es[k]? = some (.inl (g.2.2 3, n, .inr (.inr (.inr (.inr f)))))) (hv : es[qk]? = some (.inr (2, vs))) (hx : zix j n = true) (hdg : decode cc pc = .ok (.aastore, 1))
    (kk : ∀ (H1 : Heap) (locs1 : List Loc), zSeg g a (es.set k (.inl (g.2.2 3, n, .inr (.inr (.inr (.inr (va_up f (zN j) (some b2)))))))) H1 → va_S (zS a0) s.heap H1 locs1 → W p l e R s m args below meth c H1 locs1 cells slots Q (F0 m (pc + 1) ls rest)) : W p l e R s m args below meth c H locs cells slots Q (F0 m pc ls (.ref b2 :: .int j :: .ref b :: rest)) := by
  subst hb
  subst hb2
  have hin := zix_in hx
  have hlt : j.toNatClampNeg < n := Nat.not_le.mp fun q => hin (Or.inr q)
  have h0 : ¬ j < 0 := fun q => hin (Or.inl q)
  obtain ⟨r', hr', cellV, g1, g2, g3, -⟩ := hE.2 qk _ hv
  have hcls := (hK.1.1.1 2 _ rfl).2
  obtain ⟨kA, comp, k1, k2, k3, -⟩ := (hK.1.1.2 3 _ rfl).2
  have hcomp : comp = g.2.1.1 2 := Option.some.inj (k3.symm.trans hcls.1)
  subst hcomp
  obtain ⟨kC, hkC, -⟩ := hcls.2
  have hcell : H[a + k]? = some (vp_cell (g.2.2 3) (n, .inr (.inr (.inr (.inr f))))) := hE.2 k _ he
  refine W.aast S.1 S.2.1 hcell (fun q h => by cases h) (fun h => by cases h) k1 k2 rfl hkC ⟨h0, by show _ < (arrV _ _ _).slots.size; rw [arrV_size]; exact hlt⟩ g1 (fun q h => by rw [g3] at h; cases h) (by rw [g2]; exact hkC) (by rw [g2]; exact va_assign hcls) rfl rfl hdg fun H1 e1 z1 oq => ?_
  refine kk H1 _ (hE.set he z1 oq ?_) (hS0.put z1 oq (by show a0 ≤ a + k; omega))
  show H1[a + k]? = some (vp_cell _ _)
  rw [e1]
  rw [vp_cell_q, vp_cell_q, arrV_store]
  congr 2
  funext q
  by_cases hq : q = j.toNatClampNeg
  · subst hq
    simp [updV, va_up, va_rf]
  · simp [updV, va_up, hq]
theorem zs_ctor {y : MethodName} {bytes : ByteArray} {maxL mc ms index b : Nat} {rm : Room} {ns : List va_E} {e0 : va_E} (S : CallFix p m c cc nL s args zT own) (hK : zKc g s) (hE : zSeg g a (es ++ [e0]) H) (hS : va_S (zS a0) s.heap H locs) (ha : a0 ≤ a) (hb : a + es.length = b) (hM : Met l y [.code y bytes maxL none] rm (zPi g b [e0]) (zQn g b ns) mc ms (zS b)) (hrc : rm.cells = mc) (hrs : rm.slots = ms) (hR : rm.frames + 1 ≤ R.frames ∧ 8 + (maxL + 11) + rm.locals ≤ R.locals) (h1 : Cond.methodLink own index y ∈ zT) (h2 : Cond.instanceMethod y ∈ zT) (h3 : Cond.initialized y.cls ∈ zT) (h4 : Cond.code y bytes maxL none ∈ zT) (hn : y.name = "<init>") (hd : y.cls ≠ "java/lang/invoke/MethodHandle" ∧ y.cls ≠ "java/lang/invoke/VarHandle" ∧ (parseMethodDescriptor y.desc).map (fun d => d.parameters.length) = some 0) (hsz : ls.size = nL) (hW : (rest.map fun v => v.category).sum ≤ 8) (hdg : decode cc pc = .ok (.invokespecial index, 3)) (hf : cells + mc ≤ R.cells ∧ slots + ms ≤ R.slots)
    (kk : ∀ (H1 : Heap) (locs1 : List Loc), zSeg g a (es ++ ns) H1 → va_S (zS a0) s.heap H1 locs1 → W p l e R s m args below meth c H1 locs1 (cells + mc) (slots + ms) Q (F0 m (pc + 3) ls rest)) : W p l e R s m args below meth c H locs cells slots Q (F0 m pc ls (.ref b :: rest)) := by
  refine va_callv (va_runI (As := []) (rest := rest) S hM (cwI 0 S.2.2.2.2 (zgN h4) rfl hrc hrs (S.2.2.2.2 _ h3) (S.2.2.2.2 _ h1) (S.2.2.2.2 _ h2) hn hd hR) ⟨zPi_blind, fun U hU hWm => ⟨rfl, by rw [hU]; exact hE.last hb, hK.warm hWm⟩⟩ rfl rfl hsz rfl (lv_room hW) hdg hf) hS (fun q _ h => Nat.le_trans (by omega) h) (fun q h => Nat.le_trans (by omega) h) (fun u t H1 locs1 ht hvm hw hB hz1 hk1 hS => ?_)
  rw [ht] at hB
  exact kk H1 locs1 (hE.call hb (fun q h1 h2 => hk1 q h1 h2) hB) hS
theorem zs_vret (S : CallFix p m c cc nL s args zT own) (hr : meth.sig.returnType = none) (hlocks : meth.locks = false) (hE : zSeg g a es H) (hS : va_S (zS a) s.heap H locs) (hdg : decode cc pc = .ok (.return_, 1)) : W p l e R s m args below meth c H locs cells slots (MQ below (zQn g a es) args s cells slots (zS a)) (F0 m pc ls []) :=
  W.vret S.1 S.2.1 hr (fun t ht hW => ⟨⟨(), rfl, trivial, by show zSeg g a es t.heap; rw [ht]; exact hE⟩, hS.F ht⟩) hS.2.2 hdg hlocks
end ZI
