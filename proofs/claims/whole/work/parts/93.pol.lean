/-! the ring of polynomials -/
abbrev Pol (q : Nat) : Type := {f : PS q // isPol f}
theorem ip_neg {q : Nat} {f : PS q} (hf : isPol f) : isPol (fun n => - f n : PS q) := by
  obtain ⟨m, hm⟩ := hf
  refine ⟨m, fun i hi => ?_⟩
  show - f i = 0
  rw [hm i hi]; grind
theorem ip_pow {q : Nat} {f : PS q} (hf : isPol f) : ∀ k, isPol (pl_pow f k)
  | 0 => ip_c 1
  | k + 1 => ip_mul (ip_pow hf k) hf
def polRing (q : Nat) : Lean.Grind.CommRing (Pol q) :=
  letI iR : Lean.Grind.CommRing (Fin (q + 1)) := inferInstance
  letI : NatCast (Fin (q + 1)) := iR.natCast
  letI : IntCast (Fin (q + 1)) := iR.intCast
  { add := fun f g => ⟨padd f.1 g.1, ip_add f.2 g.2⟩
    mul := fun f g => ⟨pl_mul f.1 g.1, ip_mul f.2 g.2⟩
    neg := fun f => ⟨fun n => - f.1 n, ip_neg f.2⟩
    sub := fun f g => ⟨psub f.1 g.1, ip_sub f.2 g.2⟩
    natCast := ⟨fun k => ⟨pl_c (k : Fin (q + 1)), ip_c _⟩⟩
    ofNat := fun k => ⟨⟨pl_c (k : Fin (q + 1)), ip_c _⟩⟩
    nsmul := ⟨fun k f => ⟨pl_mul (pl_c (k : Fin (q + 1))) f.1, ip_mul (ip_c _) f.2⟩⟩
    npow := ⟨fun f k => ⟨pl_pow f.1 k, ip_pow f.2 k⟩⟩
    intCast := ⟨fun k => ⟨pl_c (k : Fin (q + 1)), ip_c _⟩⟩
    zsmul := ⟨fun k f => ⟨pl_mul (pl_c (k : Fin (q + 1))) f.1, ip_mul (ip_c _) f.2⟩⟩
    add_zero := fun f => Subtype.ext ((serRing (Fin (q + 1))).add_zero f.1)
    add_comm := fun f g => Subtype.ext ((serRing (Fin (q + 1))).add_comm f.1 g.1)
    add_assoc := fun f g h => Subtype.ext ((serRing (Fin (q + 1))).add_assoc f.1 g.1 h.1)
    mul_assoc := fun f g h => Subtype.ext ((serRing (Fin (q + 1))).mul_assoc f.1 g.1 h.1)
    mul_comm := fun f g => Subtype.ext ((serRing (Fin (q + 1))).mul_comm f.1 g.1)
    mul_one := fun f => Subtype.ext ((serRing (Fin (q + 1))).mul_one f.1)
    one_mul := fun f => Subtype.ext ((serRing (Fin (q + 1))).one_mul f.1)
    left_distrib := fun f g h => Subtype.ext ((serRing (Fin (q + 1))).left_distrib f.1 g.1 h.1)
    right_distrib := fun f g h => Subtype.ext ((serRing (Fin (q + 1))).right_distrib f.1 g.1 h.1)
    mul_zero := fun f => Subtype.ext ((serRing (Fin (q + 1))).mul_zero f.1)
    zero_mul := fun f => Subtype.ext ((serRing (Fin (q + 1))).zero_mul f.1)
    pow_zero := fun f => Subtype.ext ((serRing (Fin (q + 1))).pow_zero f.1)
    pow_succ := fun f n => rfl
    ofNat_succ := fun k => Subtype.ext ((serRing (Fin (q + 1))).ofNat_succ k)
    ofNat_eq_natCast := fun _ => rfl
    nsmul_eq_natCast_mul := fun _ _ => rfl
    neg_add_cancel := fun f => Subtype.ext ((serRing (Fin (q + 1))).neg_add_cancel f.1)
    sub_eq_add_neg := fun f g => Subtype.ext ((serRing (Fin (q + 1))).sub_eq_add_neg f.1 g.1)
    neg_zsmul := fun i f => Subtype.ext ((serRing (Fin (q + 1))).neg_zsmul i f.1)
    zsmul_natCast_eq_nsmul := fun k f => Subtype.ext ((serRing (Fin (q + 1))).zsmul_natCast_eq_nsmul k f.1)
    intCast_ofNat := fun k => Subtype.ext ((serRing (Fin (q + 1))).intCast_ofNat k)
    intCast_neg := fun i => Subtype.ext ((serRing (Fin (q + 1))).intCast_neg i) }
theorem pol_1 (q : Nat) : (@OfNat.ofNat (Pol q) 1 ((polRing q).ofNat 1)).1 = pl_c 1 := rfl
theorem pol_0 (q : Nat) : (@OfNat.ofNat (Pol q) 0 ((polRing q).ofNat 0)).1 = pz := by
  show pl_c _ = _
  exact pl_c_zero
/-! the first coefficient apart -/
def ptl {q : Nat} (F : PS q) : PS q := fun i => F (i + 1)
theorem ptl_dl {q n : Nat} {F : PS q} (h : dl F (n + 1)) : dl (ptl F) n := fun i hi => h (i + 1) (by omega)
theorem tl_split {q : Nat} (F : PS q) : F = padd (pl_c (F 0)) (psh 1 (ptl F)) := by
  funext n
  cases n with
  | zero => show F 0 = (if 0 = 0 then F 0 else 0) + (if 0 < 1 then 0 else _); rw [if_pos rfl, if_pos (by omega)]; grind
  | succ n => show F (n + 1) = (if n + 1 = 0 then F 0 else 0) + (if n + 1 < 1 then 0 else F (n + 1 - 1 + 1)); rw [if_neg (by omega), if_neg (by omega), Nat.add_sub_cancel]; grind
def px {q : Nat} : PS q := pmo 1 1
theorem sh_x {q : Nat} (H : PS q) : psh 1 H = pl_mul px H := by
  unfold px
  rw [pmo_mul]
  congr 1
  funext n
  show H n = H n * 1
  grind
theorem scl_c {q : Nat} (G : PS q) (c : Fin (q + 1)) : pscl G c = pl_mul (pl_c c) G := by
  rw [pl_mul_comm, pl_mul_c]; rfl
theorem ip_x {q : Nat} : isPol (px : PS q) := ⟨2, pmo_dl 1 1⟩
theorem mul_tl {q : Nat} (F G : PS q) : pl_mul F G = padd (pscl G (F 0)) (psh 1 (pl_mul (ptl F) G)) := by
  have h := tl_split F
  have e : pl_mul F G = pl_mul (padd (pl_c (F 0)) (psh 1 (ptl F))) G := by rw [← h]
  rw [e, pm_addr, sh_x, sh_x, scl_c, pl_mul_assoc]
theorem pz_tl {q : Nat} : ptl (pz : PS q) = pz := rfl
/-! derivatives -/
theorem der_add {q : Nat} (F G : PS q) : pder (padd F G) = padd (pder F) (pder G) := by
  funext n
  show (F (n + 1) + G (n + 1)) * Fin.ofNat (q + 1) (n + 1) = F (n + 1) * Fin.ofNat (q + 1) (n + 1) + G (n + 1) * Fin.ofNat (q + 1) (n + 1)
  generalize Fin.ofNat (q + 1) (n + 1) = c
  grind
theorem der_scl {q : Nat} (F : PS q) (c : Fin (q + 1)) : pder (pscl F c) = pscl (pder F) c := by
  funext n
  show (F (n + 1) * c) * Fin.ofNat (q + 1) (n + 1) = F (n + 1) * Fin.ofNat (q + 1) (n + 1) * c
  generalize Fin.ofNat (q + 1) (n + 1) = d
  grind
theorem fin_succ {q : Nat} (k : Nat) : Fin.ofNat (q + 1) (k + 1) = Fin.ofNat (q + 1) k + 1 := by
  apply Fin.ext
  show (k + 1) % (q + 1) = (k % (q + 1) + 1 % (q + 1)) % (q + 1)
  rw [Nat.add_mod]
theorem der_sh {q : Nat} (H : PS q) : pder (psh 1 H) = padd H (psh 1 (pder H)) := by
  funext n
  show (if n + 1 < 1 then 0 else H (n + 1 - 1)) * Fin.ofNat (q + 1) (n + 1) = H n + (if n < 1 then 0 else pder H (n - 1))
  rw [if_neg (by omega), Nat.add_sub_cancel]
  cases n with
  | zero =>
    rw [if_pos (by omega), fin_succ]
    have : Fin.ofNat (q + 1) 0 = 0 := rfl
    rw [this]
    grind
  | succ n =>
    rw [if_neg (by omega), Nat.add_sub_cancel, fin_succ]
    show H (n + 1) * (Fin.ofNat (q + 1) (n + 1) + 1) = H (n + 1) + H (n + 1) * Fin.ofNat (q + 1) (n + 1)
    generalize Fin.ofNat (q + 1) (n + 1) = d
    grind
theorem der_c {q : Nat} (c : Fin (q + 1)) : pder (pl_c c) = pz := by
  funext n
  show (if n + 1 = 0 then c else 0) * _ = 0
  rw [if_neg (by omega)]
  grind
theorem der_z {q : Nat} : pder (pz : PS q) = pz := by
  funext n
  show (0 : Fin (q + 1)) * _ = 0
  grind
theorem der_tl {q : Nat} (F : PS q) : pder F = padd (ptl F) (psh 1 (pder (ptl F))) := by
  have e : pder F = pder (padd (pl_c (F 0)) (psh 1 (ptl F))) := by rw [← tl_split F]
  rw [e, der_add, der_c, der_sh, padd_zl]
theorem rg_der {A : Type} [Lean.Grind.CommRing A] (c X G G' H H' : A) : c * G' + (H * G + X * (H' * G + H * G')) = (H + X * H') * G + (c + X * H) * G' := by grind
theorem der_mul {q : Nat} (G : PS q) : ∀ {n : Nat} {F : PS q}, dl F n → pder (pl_mul F G) = padd (pl_mul (pder F) G) (pl_mul F (pder G))
  | 0, F, h => by
    rw [dl_zero h, pm_z, pm_z, der_z, pm_z, padd_z]
  | n + 1, F, h => by
    rw [mul_tl F G, der_add, der_scl, der_sh, der_mul G (ptl_dl h), der_tl F, mul_tl F (pder G), sh_x, sh_x, sh_x, scl_c]
    have := @rg_der (PS q) (serRing (Fin (q + 1))) (pl_c (F 0)) px G (pder G) (ptl F) (pder (ptl F))
    refine Eq.trans this ?_
    show padd (pl_mul (padd (ptl F) (pl_mul px (pder (ptl F)))) G) (pl_mul (padd (pl_c (F 0)) (pl_mul px (ptl F))) (pder G)) = _
    rw [pm_addr (pl_c (F 0)), pl_mul_assoc px (ptl F) (pder G)]
/-! values of polynomials at an element of a ring -/
def isHm {q : Nat} {S : Type} [Lean.Grind.CommRing S] (i : Fin (q + 1) → S) : Prop := (∀ a b, i (a + b) = i a + i b) ∧ (∀ a b, i (a * b) = i a * i b) ∧ i 0 = 0 ∧ i 1 = 1
def evl {q : Nat} {S : Type} [Lean.Grind.CommRing S] (i : Fin (q + 1) → S) (s : S) : Nat → PS q → S
  | 0, _ => 0
  | n + 1, F => i (F 0) + s * evl i s n (ptl F)
theorem evl_s {q : Nat} {S : Type} [Lean.Grind.CommRing S] (i : Fin (q + 1) → S) (s : S) (n : Nat) (F : PS q) : evl i s (n + 1) F = i (F 0) + s * evl i s n (ptl F) := rfl
theorem evl_z {q : Nat} {S : Type} [Lean.Grind.CommRing S] {i : Fin (q + 1) → S} (h : isHm i) (s : S) : ∀ n, evl i s n (pz : PS q) = 0
  | 0 => rfl
  | n + 1 => by
    rw [evl_s, pz_tl, evl_z h s n]
    have e : i ((pz : PS q) 0) = 0 := h.2.2.1
    rw [e]; grind
theorem evl_ext {q : Nat} {S : Type} [Lean.Grind.CommRing S] {i : Fin (q + 1) → S} (h : isHm i) (s : S) : ∀ (n : Nat) {F : PS q}, dl F n → ∀ k, evl i s (n + k) F = evl i s n F
  | 0, F, hF, k => by rw [dl_zero hF, evl_z h, evl_z h]
  | n + 1, F, hF, k => by rw [show n + 1 + k = (n + k) + 1 by omega, evl_s, evl_s, evl_ext h s n (ptl_dl hF) k]
theorem evl_le {q : Nat} {S : Type} [Lean.Grind.CommRing S] {i : Fin (q + 1) → S} (h : isHm i) (s : S) {n m : Nat} {F : PS q} (hF : dl F n) (hm : n ≤ m) : evl i s m F = evl i s n F := by
  rw [show m = n + (m - n) by omega]; exact evl_ext h s n hF _
theorem evl_add {q : Nat} {S : Type} [Lean.Grind.CommRing S] {i : Fin (q + 1) → S} (h : isHm i) (s : S) : ∀ (n : Nat) (F G : PS q), evl i s n (padd F G) = evl i s n F + evl i s n G
  | 0, F, G => by show (0 : S) = 0 + 0; grind
  | n + 1, F, G => by
    rw [evl_s, evl_s, evl_s, show ptl (padd F G) = padd (ptl F) (ptl G) from rfl, evl_add h s n, show (padd F G) 0 = F 0 + G 0 from rfl, h.1]
    grind
theorem evl_scl {q : Nat} {S : Type} [Lean.Grind.CommRing S] {i : Fin (q + 1) → S} (h : isHm i) (s : S) (c : Fin (q + 1)) : ∀ (n : Nat) (F : PS q), evl i s n (pscl F c) = i c * evl i s n F
  | 0, F => by show (0 : S) = i c * 0; grind
  | n + 1, F => by
    rw [evl_s, evl_s, show ptl (pscl F c) = pscl (ptl F) c from rfl, evl_scl h s c n, show (pscl F c) 0 = F 0 * c from rfl, h.2.1]
    grind
theorem evl_sh {q : Nat} {S : Type} [Lean.Grind.CommRing S] {i : Fin (q + 1) → S} (h : isHm i) (s : S) (n : Nat) (F : PS q) : evl i s (n + 1) (psh 1 F) = s * evl i s n F := by
  have e1 : ptl (psh 1 F) = F := by
    funext k
    show (if k + 1 < 1 then 0 else F (k + 1 - 1)) = F k
    rw [if_neg (by omega), Nat.add_sub_cancel]
  have e2 : i ((psh 1 F) 0) = 0 := h.2.2.1
  rw [evl_s, e1, e2]
  grind
theorem evl_mul {q : Nat} {S : Type} [Lean.Grind.CommRing S] {i : Fin (q + 1) → S} (h : isHm i) (s : S) {b : Nat} {G : PS q} (hG : dl G b) : ∀ (a : Nat) {F : PS q}, dl F a → evl i s (a + b) (pl_mul F G) = evl i s a F * evl i s b G
  | 0, F, hF => by
    rw [dl_zero hF, pm_z, evl_z h, evl_z h]
    grind
  | a + 1, F, hF => by
    have hm := dl_mul (ptl_dl hF) hG
    rw [mul_tl, evl_add h, evl_scl h, show a + 1 + b = (a + b) + 1 by omega, evl_sh h, evl_le h s hG (by omega), evl_mul h s hG a (ptl_dl hF), evl_s]
    generalize evl i s b G = y
    generalize evl i s a (ptl F) = x
    generalize i (F 0) = c
    grind
theorem evl_c {q : Nat} {S : Type} [Lean.Grind.CommRing S] {i : Fin (q + 1) → S} (h : isHm i) (s : S) (c : Fin (q + 1)) : ∀ n, evl i s (n + 1) (pl_c c : PS q) = i c
  | n => by
    have e : ptl (pl_c c : PS q) = pz := by
      funext k
      show (if k + 1 = 0 then c else 0) = 0
      rw [if_neg (by omega)]
    rw [evl_s, e, evl_z h]
    show i c + s * 0 = i c
    grind
