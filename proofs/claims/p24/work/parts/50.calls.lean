/-! ===== the class's calls: answer, new sky ===== -/
def zIA (M : zM) (A : zA) : Prop := ∃ σ, zOK σ ∧ zCR M σ ∧ σ.1 = A
theorem zIA.ok {M : zM} {A : zA} (h : zIA M A) : zok A := by obtain ⟨σ, h0, _, rfl⟩ := h; exact h0.1
theorem zIA.A {M : zM} {A : zA} (h : zIA M A) : zcA M 0 = A := by obtain ⟨σ, _, h1, rfl⟩ := h; exact h1.1
def zP (o : Option (Int32 × zM)) (M : zM) (x : Int32) (A : zA) : Prop := ∃ M', o = some (x, M') ∧ zIA M' A ∧ zhi M M'
theorem zP.ret {M : zM} {σ : zSg} {x : Int32} (h0 : zOK σ) (h1 : zCR M σ) : zP (some (x, M)) M x σ.1 := ⟨M, rfl, ⟨σ, h0, h1, rfl⟩, zhi.refl⟩
theorem zP.fin {M M' : zM} {σ : zSg} {x : Int32} {A : zA} (h0 : zOK σ) (h1 : zCR M σ) (hA : zok A) (f1 : zgs M M') (a1 : zcA M' 0 = A) : zP (some (x, M')) M x A :=
  ⟨M', rfl, ⟨(A, σ.2), h0.of hA, f1.CR h1 a1, rfl⟩, f1.hi⟩
theorem zP.rec {M : zM} {σ : zSg} {x : Int32} {A : zA} {f : zM → Option (Int32 × zM)} (h0 : zOK σ) (h1 : zCR M σ) (h : ∀ M, zOK (zrec σ) → zCR M (zrec σ) → zP (f M) M x A) : zP (zC (fX0_record M 0) fun _ M1 => f M1) M x A := by
  obtain ⟨M1, a1, a2, a3⟩ := e0_rec h0 h1
  rw [a1, zC_some]
  obtain ⟨M2, b1, b2, b3⟩ := h M1 (zrec_ok h0) a2
  exact ⟨M2, b1, b2, a3.trans b3⟩
theorem zgt {ρ : Type} {b : Bool} {X Y : ρ} (h : b = true) : (if zb b = 0 then X else Y) = Y := by rw [h]; rfl
theorem zgf {ρ : Type} {b : Bool} {X Y : ρ} (h : b = false) : (if zb b = 0 then X else Y) = X := by rw [h]; rfl
theorem zhas_t {A : zA} {k : Nat} (hk : k < zKn A) (h6 : zKn A ≤ 6) : zhas A (nI k) = true := by rw [zhas_of (by omega)]; exact decide_eq_true hk
theorem zwin_t {n : Nat} {x y : Int32} {a b : Int} (hx : x.toInt = a) (hy : y.toInt = b) (h1 : a ≤ n) (h2 : (n : Int) ≤ b) (hn : n < 2 ^ 31) : zwin (nI n) x.toInt y.toInt = true := by
  unfold zwin; rw [nI_toInt hn, hx, hy, decide_eq_true h1, decide_eq_true h2]; rfl
theorem zwin_v {v : Int32} (x y : Int32) {a b : Int} (h : a ≤ v.toInt ∧ v.toInt ≤ b) (hx : x.toInt = a) (hy : y.toInt = b) : zwin v x.toInt y.toInt = true := by
  rw [hx, hy]; exact zwin_iff.mpr h
theorem p_wear {M : zM} {A : zA} {k p : Nat} (h : zIA M A) (hk : k < zKn A) (hp : p < 32) : zP (fX6_wear M (nI k) (nI p)) M (if zfly A k = true then A k (12 + p) else -5) A := by
  obtain ⟨σ, h0, h1, rfl⟩ := h
  have hK := h0.1.2.1
  have hk6 : k < 6 := by omega
  unfold fX6_wear
  rw [gH h0 h1, zC_some, zgt (zhas_t hk hK), e2_within, zC_some, zgt (zwin_t (a := 0) (b := 31) rfl rfl (by omega) (by omega) (by omega)), gF h0 h1 hk6, zC_some]
  cases hf : zfly σ.1 k with
  | false => rw [zgf rfl, if_neg (by decide)]; exact zP.ret h0 h1
  | true => rw [zgt rfl, e2_wearAt (h1.hk h0 hk) hp, zC_some, h1.1, if_pos rfl]; exact zP.ret h0 h1
theorem p_crossing {M : zM} {A : zA} {k o n : Nat} (h : zIA M A) (hk : k < zKn A) (ho : o < zKn A) (hne : k ≠ o) (hn : n ≤ 5) (hfk : zfly A k = true) (hfo : zfly A o = true) : zP (fX6_crossing M (nI k) (nI o) (nI n)) M (zxa A k o n) A := by
  obtain ⟨σ, h0, h1, rfl⟩ := h
  have hK := h0.1.2.1
  have hk6 : k < 6 := by omega
  have ho6 : o < 6 := by omega
  have hne' : ¬ nI k = nI o := by rw [zeq (by omega) (by omega)]; exact hne
  obtain ⟨M1, m1, m2, m3⟩ := e5_measure (M := M) (w := 0) (j := 0) (by rw [h1.1]; exact h0.1)
  rw [h1.1] at m2
  have a1 : zcA M1 0 = σ.1 := m3.cA.trans h1.1
  unfold fX6_crossing
  rw [gH h0 h1, zC_some, zgt (zhas_t hk hK), gH h0 h1, zC_some, zgt (zhas_t ho hK), if_neg hne', e2_within, zC_some, zgt (zwin_t (a := 0) (b := 5) rfl rfl (by omega) (by omega) (by omega)), gF h0 h1 hk6, zC_some, zgt hfk, gF h0 h1 ho6, zC_some, zgt hfo, m1, zC_some, e6_abx a1 m2 h0.1 hk ho hn, zC_some]
  exact zP.fin h0 h1 h0.1 m3.gs a1
theorem p_kite {M : zM} {A : zA} {k n : Nat} (h : zIA M A) (hk : k < zKn A) (hn : n ≤ 11) : zP (fX6_kite M (nI k) (nI n)) M (zka A k n) A := by
  obtain ⟨σ, h0, h1, rfl⟩ := h
  have hK := h0.1.2.1
  obtain ⟨M1, m1, m3⟩ := e6_kite h0 h1 hk hn
  unfold fX6_kite
  rw [gH h0 h1, zC_some, zgt (zhas_t hk hK), e2_within, zC_some, zgt (zwin_t (a := 0) (b := 11) rfl rfl (by omega) (by omega) (by omega)), m1]
  exact zP.fin h0 h1 h0.1 m3.gs (m3.cA.trans h1.1)
theorem p_count0 {M : zM} {A : zA} (h : zIA M A) : zP (fX6_count M 0) M (A 6 0) A := by
  obtain ⟨σ, h0, h1, rfl⟩ := h
  unfold fX6_count
  rw [if_pos rfl, c60 h1]; exact zP.ret h0 h1
theorem p_count1 {M : zM} {A : zA} (h : zIA M A) : zP (fX6_count M 1) M (zmk (zfly A)) A := by
  obtain ⟨σ, h0, h1, rfl⟩ := h
  unfold fX6_count
  rw [if_neg (by decide), if_pos rfl, e2_air h0.1 h1.1, zC_some]; exact zP.ret h0 h1
theorem p_count2 {M : zM} {A : zA} (h : zIA M A) : zP (fX6_count M 2) M (nI (zpr A 6)) A := by
  obtain ⟨σ, h0, h1, rfl⟩ := h
  obtain ⟨M1, m1, m2, m3⟩ := e5_measure (M := M) (w := 0) (j := 0) (by rw [h1.1]; exact h0.1)
  rw [h1.1] at m2
  unfold fX6_count
  rw [if_neg (by decide), if_neg (by decide), if_pos rfl, m1, zC_some, e5_crossings m2, zC_some]
  exact zP.fin h0 h1 h0.1 m3.gs (m3.cA.trans h1.1)
theorem p_count3 {M : zM} {A : zA} (h : zIA M A) : zP (fX6_count M 3) M (A 6 2) A := by
  obtain ⟨σ, h0, h1, rfl⟩ := h
  unfold fX6_count
  rw [if_neg (by decide), if_neg (by decide), if_neg (by decide), if_pos rfl, zs2 (M := M), h1.1]; exact zP.ret h0 h1
theorem p_count4 {M : zM} {A : zA} (h : zIA M A) : zP (fX6_count M 4) M (A 6 1) A := by
  obtain ⟨σ, h0, h1, rfl⟩ := h
  unfold fX6_count
  rw [if_neg (by decide), if_neg (by decide), if_neg (by decide), if_neg (by decide), if_pos rfl, zs1 (M := M), h1.1]; exact zP.ret h0 h1
theorem p_count5 {M : zM} {A : zA} (h : zIA M A) : zP (fX6_count M 5) M (if zKn A = 0 then -6 else nI (zld A)) A := by
  obtain ⟨σ, h0, h1, rfl⟩ := h
  unfold fX6_count
  rw [if_neg (by decide), if_neg (by decide), if_neg (by decide), if_neg (by decide), if_neg (by decide), if_pos rfl, e2_lead h0.1 h1.1, zC_some]; exact zP.ret h0 h1
theorem p_count6 {M : zM} {A : zA} (h : zIA M A) : zP (fX6_count M 6) M (zsp A) A := by
  obtain ⟨σ, h0, h1, rfl⟩ := h
  unfold fX6_count
  rw [if_neg (by decide), if_neg (by decide), if_neg (by decide), if_neg (by decide), if_neg (by decide), if_neg (by decide), if_pos rfl, e2_pts h0.1 h1.1, zC_some]; exact zP.ret h0 h1
theorem p_count7 {M : zM} {A : zA} (h : zIA M A) : zP (fX6_count M 7) M (A 6 3) A := by
  obtain ⟨σ, h0, h1, rfl⟩ := h
  unfold fX6_count
  rw [if_neg (by decide), if_neg (by decide), if_neg (by decide), if_neg (by decide), if_neg (by decide), if_neg (by decide), if_neg (by decide), if_pos rfl, zs3 (M := M), h1.1]; exact zP.ret h0 h1
def zfcA (A : zA) (v : Int32) : Int32 := match zfc 300 1 A with
  | none => -6
  | some q => zfa v q.1 q.2.1 q.2.2
theorem p_firstCut {M : zM} {A : zA} {v : Nat} (h : zIA M A) (hv : v ≤ 2) : zP (fX6_firstCut M (nI v)) M (zfcA A (nI v)) A := by
  obtain ⟨σ, h0, h1, rfl⟩ := h
  obtain ⟨M1, e1, c1, f1⟩ := e2_copy (M := M) (j := 1) (j1 := 0) (by omega)
  rw [h1.1] at c1
  obtain ⟨M2, e2, f2⟩ := l6_fc (v := nI v) (k := fun M28 v29 => some ((-6), M28)) 300 1 2000 M1 (by omega) (by omega) (by rw [c1]; exact h0.1)
  rw [c1, show nI 1 = (1 : Int32) from rfl] at e2
  have m2 : zgs M M2 := (f1.gs (by omega)).trans (f2.gs (by omega))
  have m3 : zcA M2 0 = σ.1 := by rw [f2.cA (by omega), f1.cA (by omega)]; exact h1.1
  unfold fX6_firstCut
  rw [e2_within, zC_some, zgt (zwin_t (a := 0) (b := 2) rfl rfl (by omega) (by omega) (by omega)), e1, zC_some, e2]
  unfold zfcA
  cases hq : zfc 300 1 σ.1 with
  | none => exact zP.fin h0 h1 h0.1 m2 m3
  | some q => exact zP.fin h0 h1 h0.1 m2 m3
theorem l6_ifpA {M : zM} {σ : zSg} {T : Nat} {v2 : Int32} (h0 : zOK σ) (h1 : zCR M σ) (hT : T ≤ 200) (kk : zM → Int32 → Int32 → Option (Int32 × zM)) : ∃ M2, (zC (fX2_copyFrom M 1 0) fun _ M1 => fX6_ifPassed_L39 kk (nI T) v2 2000 M1 0 0) = kk M2 (zts σ.1 T).2 (nI T) ∧ zcA M2 1 = (zts σ.1 T).1 ∧ zgs M M2 ∧ zcA M2 0 = σ.1 := by
  obtain ⟨M1, e1, c1, f1⟩ := e2_copy (M := M) (j := 1) (j1 := 0) (by omega)
  rw [h1.1] at c1
  obtain ⟨M2, e2, c2, f2⟩ := l6_ifp hT (a2 := v2) (k := kk) T 0 2000 0 M1 (by omega) (by omega) (by rw [c1]; exact h0.1)
  rw [c1] at e2 c2
  refine ⟨M2, ?_, c2, (f1.gs (by omega)).trans (f2.gs (by omega)), by rw [f2.cA (by omega), f1.cA (by omega)]; exact h1.1⟩
  rw [e1, zC_some]
  exact e2
theorem p_ifp0 {M : zM} {A : zA} {T : Nat} (h : zIA M A) (hT1 : 1 ≤ T) (hT : T ≤ 200) : zP (fX6_ifPassed M (nI T) 0) M (zts A T).2 A := by
  obtain ⟨σ, h0, h1, rfl⟩ := h
  unfold fX6_ifPassed
  rw [e2_within, zC_some, zgt (zwin_t (a := 1) (b := 200) rfl rfl (by omega) (by omega) (by omega)), e2_within, zC_some, zgt (by decide)]
  obtain ⟨M2, e2, c2, f2, a2⟩ := l6_ifpA (v2 := 0) h0 h1 hT (fun M32 v33 v34 => if (0 : Int32) = 0 then some (v33, M32) else if (0 : Int32) = 1 then zC (fX2_allPoints M32 1) fun r36 M35 => zC (fX2_allPoints M35 0) fun r38 M37 => some (r36 - r38, M37) else zC (fX5_measure M32 0 1) fun _ M39 => zC (fX5_crossings M39 0) fun r41 M40 => some (r41, M40))
  rw [e2, if_pos rfl]
  exact zP.fin h0 h1 h0.1 f2 a2
theorem p_ifp1 {M : zM} {A : zA} {T : Nat} (h : zIA M A) (hT1 : 1 ≤ T) (hT : T ≤ 200) : zP (fX6_ifPassed M (nI T) 1) M (zsp (zts A T).1 - zsp A) A := by
  obtain ⟨σ, h0, h1, rfl⟩ := h
  unfold fX6_ifPassed
  rw [e2_within, zC_some, zgt (zwin_t (a := 1) (b := 200) rfl rfl (by omega) (by omega) (by omega)), e2_within, zC_some, zgt (by decide)]
  obtain ⟨M2, e2, c2, f2, a2⟩ := l6_ifpA (v2 := 1) h0 h1 hT (fun M32 v33 v34 => if (1 : Int32) = 0 then some (v33, M32) else if (1 : Int32) = 1 then zC (fX2_allPoints M32 1) fun r36 M35 => zC (fX2_allPoints M35 0) fun r38 M37 => some (r36 - r38, M37) else zC (fX5_measure M32 0 1) fun _ M39 => zC (fX5_crossings M39 0) fun r41 M40 => some (r41, M40))
  rw [e2, if_neg (by decide), if_pos rfl, e2_pts (zts_ok h0.1 T) c2, zC_some, e2_pts h0.1 a2, zC_some]
  exact zP.fin h0 h1 h0.1 f2 a2
def zmeA (A : zA) (a b : Nat) : Int32 := if zcr A a b = true then 0 else match zme a b 300 1 A with
  | none => -6
  | some t => nI t
theorem p_meets {M : zM} {A : zA} {a b : Nat} (h : zIA M A) (ha : a < zKn A) (hb : b < zKn A) (hne : a ≠ b) (hfa : zfly A a = true) (hfb : zfly A b = true) : zP (fX6_meets M (nI a) (nI b)) M (zmeA A a b) A := by
  obtain ⟨σ, h0, h1, rfl⟩ := h
  have hK := h0.1.2.1
  have ha6 : a < 6 := by omega
  have hb6 : b < 6 := by omega
  have hne' : ¬ nI a = nI b := by rw [zeq (by omega) (by omega)]; exact hne
  obtain ⟨M1, m1, m2, m3⟩ := e5_measure (M := M) (w := 0) (j := 0) (by rw [h1.1]; exact h0.1)
  have a1 : zcA M1 0 = σ.1 := m3.cA.trans h1.1
  rw [h1.1] at m2
  unfold fX6_meets
  rw [gH h0 h1, zC_some, zgt (zhas_t ha hK), gH h0 h1, zC_some, zgt (zhas_t hb hK), if_neg hne', gF h0 h1 ha6, zC_some, zgt hfa, gF h0 h1 hb6, zC_some, zgt hfb, m1, zC_some, e5_cross (t := zcr σ.1 a b) ha6 hb6 m2 (fun q hq => znt_6 hK hq) (znt_mem hK), zC_some]
  unfold zmeA
  cases hc : zcr σ.1 a b with
  | true => rw [zgt rfl, if_pos rfl]; exact zP.fin h0 h1 h0.1 m3.gs a1
  | false =>
    rw [zgf rfl, if_neg (by decide)]
    obtain ⟨M2, e2, c2, f2⟩ := e2_copy (M := M1) (j := 1) (j1 := 0) (by omega)
    rw [a1] at c2
    obtain ⟨M3, e3, f3⟩ := l6_me ha6 hb6 (k := fun M37 v38 => some ((-6), M37)) 300 1 2000 M2 (by omega) (by omega) (by rw [c2]; exact h0.1)
    rw [c2, show nI 1 = (1 : Int32) from rfl] at e3
    have g3 : zgs M M3 := (m3.gs.trans (f2.gs (by omega))).trans (f3.gs (by omega))
    have g4 : zcA M3 0 = σ.1 := by rw [f3.cA (by omega), f2.cA (by omega)]; exact a1
    rw [e2, zC_some, e3]
    cases hq : zme a b 300 1 σ.1 with
    | none => exact zP.fin h0 h1 h0.1 g3 g4
    | some q => exact zP.fin h0 h1 h0.1 g3 g4
theorem p_launch {M : zM} {A : zA} {v1 v2 v3 v4 v5 : Int32} (h : zIA M A) (hK : zKn A < 6) (w1 : 0 ≤ v1.toInt ∧ v1.toInt ≤ 63) (w2 : 0 ≤ v2.toInt ∧ v2.toInt ≤ 63) (w3 : 1 ≤ v3.toInt ∧ v3.toInt ≤ 47) (w4 : 0 ≤ v4.toInt ∧ v4.toInt ≤ 5) (w5 : 10 ≤ v5.toInt ∧ v5.toInt ≤ 200) : zP (fX6_launch M v1 v2 v3 v4 v5) M (nI (zKn A)) (zln A (zKn A) v1 v2 v3 v4 v5) := by
  obtain ⟨σ, h0, h1, rfl⟩ := h
  unfold fX6_launch
  rw [e2_within, zC_some, zgt (zwin_v 0 63 w1 rfl rfl), e2_within, zC_some, zgt (zwin_v 0 63 w2 rfl rfl), e2_within, zC_some, zgt (zwin_v 1 47 w3 rfl rfl), e2_within, zC_some, zgt (zwin_v 0 5 w4 rfl rfl), e2_within, zC_some, zgt (zwin_v 10 200 w5 rfl rfl), e2_room ((c60 h1).trans h0.1.1) h0.1.2.1, zC_some, zgt (decide_eq_true hK)]
  refine zP.rec h0 h1 fun M1 g0 g1 => ?_
  obtain ⟨M2, e1, c1, f1⟩ := e2_add (M := M1) (j := 0) (K := zKn σ.1) (A := σ.1) (v1 := v1) (v2 := v2) (v3 := v3) (v4 := v4) (v5 := v5) g1.1 ((c60 g1).trans g0.1.1) hK
  rw [e1, zC_some]
  exact zP.fin g0 g1 (zln_ok h0.1 rfl hK w1 w2 w3 w4 w5) (f1.gs (by omega)) c1
theorem p_order {M : zM} {A : zA} {k : Nat} {a b : Int32} (h : zIA M A) (hk : k < zKn A) (ha : -3 ≤ a.toInt ∧ a.toInt ≤ 3) (hb : -3 ≤ b.toInt ∧ b.toInt ≤ 3) : zP (fX6_order M (nI k) a b) M (if zfly A k = true then ztv A k a b else -5) (if zfly A k = true then ztn3 A k a b else A) := by
  obtain ⟨σ, h0, h1, rfl⟩ := h
  have hK := h0.1.2.1
  have hk6 : k < 6 := by omega
  have ha' : zwin a (-3) 3 = true := zwin_iff.mpr ha
  have hb' : zwin b (-3) 3 = true := zwin_iff.mpr hb
  have hw : zwhy σ.1 (nI k) a b = if zfly σ.1 k = true then 0 else -5 := by
    unfold zwhy; rw [if_pos (zhas_t hk hK), if_pos ha', if_pos hb', zN_nI (by omega)]
  unfold fX6_order
  rw [e6_why h0 h1, zC_some, hw]
  cases hf : zfly σ.1 k with
  | false => rw [if_neg (show ¬ false = true by decide), if_neg (show ¬ false = true by decide), if_neg (by decide), if_neg (show ¬ false = true by decide)]; exact zP.ret h0 h1
  | true =>
    rw [if_pos (show true = true from rfl), if_pos rfl, if_pos rfl, if_pos rfl]
    refine zP.rec h0 h1 fun M1 g0 g1 => ?_
    obtain ⟨M2, e1, c1, f1⟩ := e2_turn (M := M1) (j := 0) (a := a) (b := b) hk6
    rw [g1.1] at e1 c1
    rw [e1, zC_some]
    exact zP.fin g0 g1 (ztn3_ok g0.1 hk6 ha' hb') (f1.gs (by omega)) c1
theorem p_step {M : zM} {A : zA} {k : Nat} {v : Int32} (h : zIA M A) (hk : k < zKn A) (hv : 0 ≤ v.toInt ∧ v.toInt ≤ 63) : zP (fX6_step M (nI k) v) M (if zfly A k = true then A k 0 else -5) (if zfly A k = true then zp A k 0 v else A) := by
  obtain ⟨σ, h0, h1, rfl⟩ := h
  have hK := h0.1.2.1
  have hk6 : k < 6 := by omega
  unfold fX6_step
  rw [gH h0 h1, zC_some, zgt (zhas_t hk hK), e2_within, zC_some, zgt (zwin_v 0 63 hv rfl rfl), gF h0 h1 hk6, zC_some]
  cases hf : zfly σ.1 k with
  | false => rw [zgf rfl, if_neg (by decide), if_neg (by decide)]; exact zP.ret h0 h1
  | true =>
    rw [zgt rfl, if_pos rfl, if_pos rfl]
    refine zP.rec h0 h1 fun M1 g0 g1 => ?_
    rw [zI_eq (zix_nI hk6 (by omega)), zL_eq, zI_eq (zix_nI hk6 (by omega)), zL_eq, zN_nI (by omega), zr0 (M := M1) hk6, g1.1]
    refine zP.fin (A := zp σ.1 k 0 v) g0 g1 (zok_row (k := k) h0.1 (fun k' p h => zp_nk h) hk6 fun _ hz => ?_) (zfk.gs (j := 0) (by omega) (zfk.w (by omega))) (by rw [zc0 hk6, g1.1]; rfl)
    have e : ∀ p, p ≠ 0 → zp σ.1 k 0 v k p = σ.1 k p := fun p hp => zp_np hp
    obtain ⟨a0, a1, a2, a3, a4, a5, a6, a8, a9, a10, a11, a12, a13⟩ := hz
    exact ⟨by rw [zp_at]; exact hv, by rw [e 1 (by omega)]; exact a1, by rw [e 2 (by omega)]; exact a2, by rw [e 3 (by omega)]; exact a3, by rw [e 4 (by omega)]; exact a4, by rw [e 5 (by omega)]; exact a5, by rw [e 6 (by omega)]; exact a6, by rw [e 8 (by omega)]; exact a8, by rw [e 9 (by omega)]; exact a9, by rw [e 10 (by omega)]; exact a10, by rw [e 11 (by omega)]; exact a11, fun q hq => by rw [e (12 + q) (by omega)]; exact a12 q hq, by rw [e 8 (by omega), e 6 (by omega)]; exact fun h8 q hq => by rw [e (12 + q) (by omega)]; exact a13 h8 q hq⟩
theorem p_land {M : zM} {A : zA} {k : Nat} (h : zIA M A) (hk : k < zKn A) : zP (fX6_land M (nI k)) M (if zfly A k = true then zgw A k else -5) (if zfly A k = true then zp A k 8 2 else A) := by
  obtain ⟨σ, h0, h1, rfl⟩ := h
  have hK := h0.1.2.1
  have hk6 : k < 6 := by omega
  unfold fX6_land
  rw [gH h0 h1, zC_some, zgt (zhas_t hk hK), gF h0 h1 hk6, zC_some]
  cases hf : zfly σ.1 k with
  | false => rw [zgf rfl, if_neg (by decide), if_neg (by decide)]; exact zP.ret h0 h1
  | true =>
    rw [zgt rfl, if_pos rfl, if_pos rfl]
    refine zP.rec h0 h1 fun M1 g0 g1 => ?_
    have c1 : zcA (zw M1 10 0 k 2) 0 = zp σ.1 k 8 2 := by rw [zc8 hk6, g1.1]; rfl
    have hz : zhk (zcA (zw M1 10 0 k 2) 0) k := by rw [c1]; exact (h0.1.hk hk).of (zp_ne (by omega))
    obtain ⟨a0, a1, a2, a3, a4, a5, a6, a8, a9, a10, a11, a12, a13⟩ := h0.1.2.2 k hk
    have e : ∀ p, p ≠ 8 → zp σ.1 k 8 2 k p = σ.1 k p := fun p hp => zp_np hp
    have hg : zgw σ.1 k = zgw (zp σ.1 k 8 2) k := by
      unfold zgw
      exact zf_congr _ _ _ (fun q _ _ m => by rw [e (12 + q) (by omega)])
    rw [zI_eq (zix_nI hk6 (by omega)), zL_eq, zN_nI (by omega), e2_most hz, zC_some, e2_wearAt hz zmw_spec.1, zC_some, c1, hg, zgw_mw (A := zp σ.1 k 8 2) (k := k) (fun q hq => by rw [e _ (by omega)]; exact (a12 q hq).1)]
    refine zP.fin (A := zp σ.1 k 8 2) g0 g1 (zok_row (k := k) h0.1 (fun k' p h => zp_nk h) hk6 fun _ _ => ?_) (zfk.gs (j := 0) (by omega) (zfk.w (by omega))) c1
    exact ⟨by rw [e 0 (by omega)]; exact a0, by rw [e 1 (by omega)]; exact a1, by rw [e 2 (by omega)]; exact a2, by rw [e 3 (by omega)]; exact a3, by rw [e 4 (by omega)]; exact a4, by rw [e 5 (by omega)]; exact a5, by rw [e 6 (by omega)]; exact a6, by rw [zp_at]; decide, by rw [e 9 (by omega)]; exact a9, by rw [e 10 (by omega)]; exact a10, by rw [e 11 (by omega)]; exact a11, fun q hq => by rw [e (12 + q) (by omega)]; exact a12 q hq, by rw [zp_at]; exact fun h => absurd h (by decide)⟩
theorem p_round {M : zM} {A : zA} (h : zIA M A) : zP (fX6_round M) M (zrd A 6 1 + 1) (zp (zrd A) 6 1 (zrd A 6 1 + 1)) := by
  obtain ⟨σ, h0, h1, rfl⟩ := h
  have hK6 := h0.1.2.1
  unfold fX6_round
  refine zP.rec h0 h1 fun M1 g0 g1 => ?_
  unfold fX2_beginAnew
  obtain ⟨M2, e1, c1, f1⟩ := l2_begin (j := 0) (K := zKn σ.1) (k := fun M26 v27 => zL (zw M26 1 0 2 ((M26 1 0 2) + 1)) fun M28 => some ((), M28)) 6 0 2000 M1 (by omega) (by omega) (by rw [g1.1]; exact h0.1) (by rw [g1.1]; rfl)
  have cA : zcA M2 0 = zrd σ.1 := by
    rw [c1, g1.1]
    show zf _ 6 0 σ.1 = zf _ (zKn σ.1) 0 σ.1
    rw [zf_cut hK6 σ.1 (fun k a b s => if_neg (by omega))]
    exact zf_congr _ _ _ (fun k a b s => if_pos (by omega))
  rw [show (0 : Int32) = nI 0 from rfl, e1, zL_eq, zC_some]
  have e61 : M2 1 0 2 = zrd σ.1 6 1 := by rw [zs1 (M := M2) (j := 0), cA]
  rw [e61]
  have a1 : (zw M2 1 0 2 (zrd σ.1 6 1 + 1)) 1 0 2 = zrd σ.1 6 1 + 1 := by rw [zw_at]; unfold upd; rw [if_pos rfl]
  rw [a1]
  exact zP.fin (A := zp (zrd σ.1) 6 1 (zrd σ.1 6 1 + 1)) g0 g1 (zok_61 (zrd_ok h0.1).1) ((f1.trans (zfk.w (by omega))).gs (by omega)) (by rw [zcs1, cA])
theorem p_pass {M : zM} {A : zA} {T : Nat} (h : zIA M A) (hT1 : 1 ≤ T) (hT : T ≤ 200) : zP (fX6_pass M (nI T)) M (zts A T).2 (zts A T).1 := by
  obtain ⟨σ, h0, h1, rfl⟩ := h
  unfold fX6_pass
  rw [e2_within, zC_some, zgt (zwin_t (a := 1) (b := 200) rfl rfl (by omega) (by omega) (by omega))]
  refine zP.rec h0 h1 fun M1 g0 g1 => ?_
  obtain ⟨M2, e1, c1, f1⟩ := l6_pass hT (k := fun M27 v28 v29 => some (v28, M27)) T 0 2000 0 M1 (by omega) (by omega) (by rw [g1.1]; exact g0.1)
  rw [g1.1] at e1 c1
  rw [show (0 : Int32) = nI 0 from rfl] at e1 c1 ⊢
  rw [e1]
  exact zP.fin g0 g1 (zts_ok g0.1 T) (f1.gs (by omega)) c1
