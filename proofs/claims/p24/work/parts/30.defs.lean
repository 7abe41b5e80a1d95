def zsa (C A : zA) : Prop := ∀ k p, ((k < 6 ∧ p < 12 ∧ p ≠ 7) ∨ (k = 6 ∧ p = 0)) → A k p = C k p
theorem zsa.refl {C : zA} : zsa C C := fun _ _ _ => rfl
theorem zsa.fly {C A : zA} (h : zsa C A) {k : Nat} (hk : k < 6) : zfly A k = zfly C k := by
  unfold zfly zKn; rw [h 6 0 (by omega), h k 8 (by omega)]
theorem zsa.gp {C A : zA} (h : zsa C A) {k o : Nat} (hk : k < 6) (ho : o < 6) : zgp A k o = zgp C k o := by
  unfold zgp; rw [h k 0 (by omega), h o 0 (by omega)]
theorem zsa.tn {C A : zA} (h : zsa C A) {k o : Nat} (hk : k < 6) (ho : o < 6) : ztn A k o = ztn C k o := by
  unfold ztn; rw [h k 0 (by omega), h o 0 (by omega), h k 1 (by omega), h o 1 (by omega), h k 2 (by omega), h o 2 (by omega)]
theorem zsa.dt {C A : zA} (h : zsa C A) {k o : Nat} (hk : k < 6) (ho : o < 6) : zdt A k o = zdt C k o := by
  unfold zdt; rw [h k 0 (by omega), h o 0 (by omega), h k 1 (by omega), h o 1 (by omega), h k 2 (by omega), h o 2 (by omega)]
theorem zsa.ga {C A : zA} (h : zsa C A) {k o : Nat} (hk : k < 6) (ho : o < 6) : zga A k o = zga C k o := by
  unfold zga; rw [h.gp hk ho, h o 2 (by omega)]
theorem zsa.cr {C A : zA} (h : zsa C A) {k o : Nat} (hk : k < 6) (ho : o < 6) : zcr A k o = zcr C k o := by
  unfold zcr; rw [h.fly hk, h.fly ho, h.gp hk ho, h.tn hk ho, h.ga hk ho, h.ga ho hk]
theorem zsa.pl {C A : zA} (h : zsa C A) {k o : Nat} (hk : k < 6) (ho : o < 6) : zpl A k o = zpl C k o := by
  unfold zpl; rw [h.ga hk ho, h.tn hk ho]
theorem zsa.st {C A : zA} (h : zsa C A) {k o : Nat} (hk : k < 6) (ho : o < 6) : zst A k o = zst C k o := by
  unfold zst; rw [h.dt hk ho, h.tn hk ho]
theorem zsa.sl {C A : zA} (h : zsa C A) {k o : Nat} (hk : k < 6) (ho : o < 6) : zsl A k o = zsl C k o := by
  unfold zsl; rw [h k 3 (by omega), h o 3 (by omega), h k 4 (by omega), h o 4 (by omega)]
theorem zsa.rb {C A : zA} (h : zsa C A) {k o : Nat} (hk : k < 6) (ho : o < 6) : zrb A k o = zrb C k o := by
  unfold zrb; rw [h.st hk ho, h.sl hk ho, h o 5 (by omega)]
theorem zsa.ad {C A : zA} {q : Nat × Nat} (h : zsa C A) (hq : q.1 < 6) : zsa C (zad C A q) := fun k p hp => by
  unfold zad; rw [zp_ne (by omega)]; exact h k p hp
def zria (C : zA) (k : Nat) : Nat → zA → zA := fun o A => if zcr C k o then zad C A (k, o) else A
theorem z6ix {a b : Nat} : 6 * nI a + nI b = nI (6 * a + b) := by rw [show (6 : Int32) = nI 6 from rfl, pk_mul, nI_add]
theorem z12 {a : Nat} : 12 + nI a = nI (12 + a) := by rw [show (12 : Int32) = nI 12 from rfl, nI_add]
theorem zcr_self {C : zA} {k : Nat} : zcr C k k = false := by unfold zcr; simp
theorem zsa.kp {C A : zA} (h : zsa C A) {k : Nat} (hk : k < 6) (hp : zkp C k) : zkp A k := by
  unfold zkp; rw [h k 0 (by omega), h k 1 (by omega), h k 2 (by omega)]; exact hp
theorem zsa.Kn {C A : zA} (h : zsa C A) : zKn A = zKn C := by unfold zKn; rw [h 6 0 (by omega)]
theorem zsa.M0 {C : zA} {M : zM} (h : zsa C (zrA (M 27 0))) (hC : zok C) : M 27 0 (zN 0) = nI (zKn C) := by
  rw [show zN 0 = 0 from rfl, zrs (f := M 27 0) (p := 0) (by omega), h 6 0 (by omega)]; exact hC.1
def zroa (C : zA) (K : Nat) : Nat → zA → zA := fun k A => zf (zria C k) K 0 A
theorem zrz {M : zM} {k p : Nat} {v : Int32} (hk : k < 6) (hp : p < 44) : zrA ((zw M 27 0 (44 * k + p + 4) v) 27 0) = zp (zrA (M 27 0)) k p v := by rw [zw_at, zru hk hp]
theorem zrzs {M : zM} {p : Nat} {v : Int32} (hp : p < 4) : zrA ((zw M 27 0 p v) 27 0) = zp (zrA (M 27 0)) 6 p v := by rw [zw_at, zrus hp]
theorem zok.M0 {M : zM} (h : zok (zrA (M 27 0))) : M 27 0 (zN 0) = nI (zKn (zrA (M 27 0))) := by
  rw [show zN 0 = 0 from rfl, zrs (f := M 27 0) (p := 0) (by omega)]; exact h.1
theorem zmo_Kn {A : zA} {k : Nat} (hk : k < 6) : zKn (zmo k A) = zKn A := by
  unfold zmo; split
  · exact zmv_Kn hk
  · rfl
def zgw (A : zA) (k : Nat) : Int32 := zf (fun p m => if A k (12 + p) ≤ m then m else A k (12 + p)) 32 0 0
def zcn (A : zA) : Nat → Int32 → Int32 := fun k m => m ||| (if zfly A k && decide ((A k 6).toInt ≤ (zgw A k).toInt) then zbit k else 0)
def zq2 (C : zA) (m : Int32) (k : Nat) : Nat → zA × Int32 → zA × Int32 := fun o s => if zcr C o k && zbq m o && zht C s.1 o k then (zp s.1 k 7 (s.1 k 7 + 1), s.2 ||| zbit k) else s
def zfp (M M' : zM) : Prop := (∀ k i, k ≠ 26 → k ≠ 27 → M' k i = M k i) ∧ ∀ s, s ≠ 13 → M' 26 0 s = M 26 0 s
theorem zfp.refl {M : zM} : zfp M M := ⟨fun _ _ _ _ => rfl, fun _ _ => rfl⟩
theorem zfp.trans {M M1 M2 : zM} (h : zfp M M1) (h2 : zfp M1 M2) : zfp M M2 := ⟨fun k i a b => (h2.1 k i a b).trans (h.1 k i a b), fun s hs => (h2.2 s hs).trans (h.2 s hs)⟩
def zq3 (C : zA) (m : Int32) (K : Nat) : Nat → zA × Int32 → zA × Int32 := fun k s => zf (zq2 C m k) K 0 s
def zvC (A : zA) : zA := zf zmo (zKn A) 0 A
def zvW (A : zA) : zA := zf (zroa (zvC A) (zKn A)) (zKn A) 0 (zvC A)
def zvm (A : zA) : Int32 := zf (zcn (zvW A)) (zKn A) 0 0
def zvP (A : zA) : zA × Int32 := zf (zq3 (zvC A) (zvm A) (zKn A)) (zKn A) 0 (zvW A, 0)
def zvc (A : zA) : zA := zf (zcu (zvm A)) (zKn A) 0 (zvP A).1
def zvT (A : zA) : zA := zp (zvc A) 6 2 (zvc A 6 2 + 1)
theorem zvC_ok {A : zA} (h : zok A) : zok (zvC A) := zf_inv _ 0 A h (fun k _ _ s hs => zmo_ok hs)
theorem zvC_Kn {A : zA} (h : zKn A ≤ 6) : zKn (zvC A) = zKn A :=
  zf_inv (P := fun s => zKn s = zKn A) _ 0 A rfl (fun k _ hk s hs => by rw [zmo_Kn (by omega)]; exact hs)
