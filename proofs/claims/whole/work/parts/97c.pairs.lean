/-! pairs a + b X, X X = D -/
def prPow {R : Type} [Lean.Grind.CommRing R] (D : R) (x : R × R) : Nat → R × R
  | 0 => (1, 0)
  | k + 1 => ((prPow D x k).1 * x.1 + (prPow D x k).2 * x.2 * D, (prPow D x k).1 * x.2 + (prPow D x k).2 * x.1)
def pairRing {R : Type} [iR : Lean.Grind.CommRing R] (D : R) : Lean.Grind.CommRing (R × R) :=
  letI : NatCast R := iR.natCast
  letI : IntCast R := iR.intCast
  { add := fun x y => (x.1 + y.1, x.2 + y.2)
    mul := fun x y => (x.1 * y.1 + x.2 * y.2 * D, x.1 * y.2 + x.2 * y.1)
    neg := fun x => (-x.1, -x.2)
    sub := fun x y => (x.1 - y.1, x.2 - y.2)
    natCast := ⟨fun k => ((k : R), 0)⟩
    ofNat := fun k => ⟨((k : R), 0)⟩
    nsmul := ⟨fun k x => ((k : R) * x.1 + 0 * x.2 * D, (k : R) * x.2 + 0 * x.1)⟩
    npow := ⟨fun x k => prPow D x k⟩
    intCast := ⟨fun k => ((k : R), 0)⟩
    zsmul := ⟨fun k x => ((k : R) * x.1 + 0 * x.2 * D, (k : R) * x.2 + 0 * x.1)⟩
    add_zero := fun x => by
      show (x.1 + ((0 : Nat) : R), x.2 + 0) = x
      rw [← Lean.Grind.Semiring.ofNat_eq_natCast]
      exact Prod.ext (by show x.1 + 0 = x.1; grind) (by show x.2 + 0 = x.2; grind)
    add_comm := fun x y => Prod.ext (by show x.1 + y.1 = y.1 + x.1; grind) (by show x.2 + y.2 = y.2 + x.2; grind)
    add_assoc := fun x y z => Prod.ext (by show x.1 + y.1 + z.1 = x.1 + (y.1 + z.1); grind) (by show x.2 + y.2 + z.2 = x.2 + (y.2 + z.2); grind)
    mul_assoc := fun x y z => Prod.ext (by show (x.1 * y.1 + x.2 * y.2 * D) * z.1 + (x.1 * y.2 + x.2 * y.1) * z.2 * D = x.1 * (y.1 * z.1 + y.2 * z.2 * D) + x.2 * (y.1 * z.2 + y.2 * z.1) * D; grind) (by show (x.1 * y.1 + x.2 * y.2 * D) * z.2 + (x.1 * y.2 + x.2 * y.1) * z.1 = x.1 * (y.1 * z.2 + y.2 * z.1) + x.2 * (y.1 * z.1 + y.2 * z.2 * D); grind)
    mul_comm := fun x y => Prod.ext (by show x.1 * y.1 + x.2 * y.2 * D = y.1 * x.1 + y.2 * x.2 * D; grind) (by show x.1 * y.2 + x.2 * y.1 = y.1 * x.2 + y.2 * x.1; grind)
    mul_one := fun x => by
      show (x.1 * ((1 : Nat) : R) + x.2 * 0 * D, x.1 * 0 + x.2 * ((1 : Nat) : R)) = x
      rw [← Lean.Grind.Semiring.ofNat_eq_natCast]
      exact Prod.ext (by show x.1 * 1 + x.2 * 0 * D = x.1; grind) (by show x.1 * 0 + x.2 * 1 = x.2; grind)
    one_mul := fun x => by
      show (((1 : Nat) : R) * x.1 + 0 * x.2 * D, ((1 : Nat) : R) * x.2 + 0 * x.1) = x
      rw [← Lean.Grind.Semiring.ofNat_eq_natCast]
      exact Prod.ext (by show 1 * x.1 + 0 * x.2 * D = x.1; grind) (by show 1 * x.2 + 0 * x.1 = x.2; grind)
    left_distrib := fun x y z => Prod.ext (by show x.1 * (y.1 + z.1) + x.2 * (y.2 + z.2) * D = x.1 * y.1 + x.2 * y.2 * D + (x.1 * z.1 + x.2 * z.2 * D); grind) (by show x.1 * (y.2 + z.2) + x.2 * (y.1 + z.1) = x.1 * y.2 + x.2 * y.1 + (x.1 * z.2 + x.2 * z.1); grind)
    right_distrib := fun x y z => Prod.ext (by show (x.1 + y.1) * z.1 + (x.2 + y.2) * z.2 * D = x.1 * z.1 + x.2 * z.2 * D + (y.1 * z.1 + y.2 * z.2 * D); grind) (by show (x.1 + y.1) * z.2 + (x.2 + y.2) * z.1 = x.1 * z.2 + x.2 * z.1 + (y.1 * z.2 + y.2 * z.1); grind)
    mul_zero := fun x => by
      show (x.1 * ((0 : Nat) : R) + x.2 * 0 * D, x.1 * 0 + x.2 * ((0 : Nat) : R)) = (((0 : Nat) : R), 0)
      rw [← Lean.Grind.Semiring.ofNat_eq_natCast]
      exact Prod.ext (by show x.1 * 0 + x.2 * 0 * D = 0; grind) (by show x.1 * 0 + x.2 * 0 = 0; grind)
    zero_mul := fun x => by
      show (((0 : Nat) : R) * x.1 + 0 * x.2 * D, ((0 : Nat) : R) * x.2 + 0 * x.1) = (((0 : Nat) : R), 0)
      rw [← Lean.Grind.Semiring.ofNat_eq_natCast]
      exact Prod.ext (by show 0 * x.1 + 0 * x.2 * D = 0; grind) (by show 0 * x.2 + 0 * x.1 = 0; grind)
    pow_zero := fun x => by
      show ((1 : R), (0 : R)) = (((1 : Nat) : R), 0)
      rw [← Lean.Grind.Semiring.ofNat_eq_natCast]
    pow_succ := fun x n => rfl
    ofNat_succ := fun k => by
      show (((k + 1 : Nat) : R), (0 : R)) = ((k : R) + ((1 : Nat) : R), 0 + 0)
      rw [← Lean.Grind.Semiring.ofNat_eq_natCast, ← Lean.Grind.Semiring.ofNat_eq_natCast, ← Lean.Grind.Semiring.ofNat_eq_natCast, Lean.Grind.Semiring.ofNat_succ]
      exact Prod.ext rfl (by show (0 : R) = 0 + 0; grind)
    ofNat_eq_natCast := fun _ => rfl
    nsmul_eq_natCast_mul := fun _ _ => rfl
    neg_add_cancel := fun x => by
      show (-x.1 + x.1, -x.2 + x.2) = (((0 : Nat) : R), 0)
      rw [← Lean.Grind.Semiring.ofNat_eq_natCast]
      exact Prod.ext (by show -x.1 + x.1 = 0; grind) (by show -x.2 + x.2 = 0; grind)
    sub_eq_add_neg := fun x y => Prod.ext (by show x.1 - y.1 = x.1 + -y.1; grind) (by show x.2 - y.2 = x.2 + -y.2; grind)
    neg_zsmul := fun i x => by
      show (((-i : Int) : R) * x.1 + 0 * x.2 * D, ((-i : Int) : R) * x.2 + 0 * x.1) = (-((i : R) * x.1 + 0 * x.2 * D), -((i : R) * x.2 + 0 * x.1))
      rw [Lean.Grind.Ring.intCast_neg]
      generalize (i : R) = y
      exact Prod.ext (by show -y * x.1 + 0 * x.2 * D = -(y * x.1 + 0 * x.2 * D); grind) (by show -y * x.2 + 0 * x.1 = -(y * x.2 + 0 * x.1); grind)
    zsmul_natCast_eq_nsmul := fun k x => by
      show (((k : Int) : R) * x.1 + 0 * x.2 * D, ((k : Int) : R) * x.2 + 0 * x.1) = ((k : R) * x.1 + 0 * x.2 * D, (k : R) * x.2 + 0 * x.1)
      have e1 : ((k : Int) : R) = ((k : Nat) : R) := (Lean.Grind.Ring.intCast_ofNat (α := R) k).trans (Lean.Grind.Semiring.ofNat_eq_natCast (α := R) k)
      rw [e1]
    intCast_ofNat := fun k => by
      show (((OfNat.ofNat k : Int) : R), (0 : R)) = ((k : R), 0)
      rw [Lean.Grind.Ring.intCast_ofNat, Lean.Grind.Semiring.ofNat_eq_natCast]
    intCast_neg := fun i => by
      show (((-i : Int) : R), (0 : R)) = (-(i : R), -0)
      rw [Lean.Grind.Ring.intCast_neg]
      exact Prod.ext rfl (by show (0 : R) = -0; grind) }
/-- the value of P at a number of F(1) -/
def pv {q : Nat} (P : PS q) (a : Fin (q + 1)) : Fin (q + 1) := evl id a 7 P
/-- the value of P at X - h -/
def ph {q : Nat} (P : PS q) (h D : Fin (q + 1)) : Fin (q + 1) × Fin (q + 1) := @evl q (Fin (q + 1) × Fin (q + 1)) (pairRing D) (fun a => (a, 0)) (-h, 1) 7 P
theorem hm_id {q : Nat} : isHm (id : Fin (q + 1) → Fin (q + 1)) := ⟨fun _ _ => rfl, fun _ _ => rfl, rfl, rfl⟩
theorem hm_pr {q : Nat} (D : Fin (q + 1)) : @isHm q (Fin (q + 1) × Fin (q + 1)) (pairRing D) (fun a => (a, 0)) := by
  refine ⟨fun a b => Prod.ext rfl ?_, fun a b => Prod.ext ?_ ?_, rfl, rfl⟩
  · show (0 : Fin (q + 1)) = 0 + 0; grind
  · show a * b = a * b + 0 * 0 * D; grind
  · show (0 : Fin (q + 1)) = a * 0 + 0 * b; grind
/-- P = v v + u m, where u comes to 0 -/
theorem evl_gd {q : Nat} {S : Type} [iS : Lean.Grind.CommRing S] {i : Fin (q + 1) → S} (hi : isHm i) (s : S) {P u v m : PS q} {a b : Nat} (hP : dl P 7) (hu : dl u a) (hv : dl v b) (hm : isPol m) (e : psub P (pl_mul v v) = pl_mul u m) (u0 : evl i s a u = 0) : evl i s 7 P = evl i s b v * evl i s b v := by
  obtain ⟨M, hm⟩ := hm
  have e2 : P = padd (pl_mul v v) (pl_mul u m) := by
    rw [← e]
    funext k
    show P k = pl_mul v v k + (P k - pl_mul v v k)
    generalize pl_mul v v k = y
    grind
  have k1 : evl i s (7 + (a + M) + (b + b)) P = evl i s 7 P := evl_le hi s hP (by omega)
  have k2 : evl i s (7 + (a + M) + (b + b)) (pl_mul v v) = evl i s b v * evl i s b v := by
    rw [← evl_mul hi s hv b hv]
    exact evl_le hi s (dl_mono (dl_mul hv hv) (by omega)) (by omega)
  have k3 : evl i s (7 + (a + M) + (b + b)) (pl_mul u m) = 0 := by
    have : evl i s (a + M) (pl_mul u m) = evl i s a u * evl i s M m := evl_mul hi s hm a hu
    rw [evl_le hi s (dl_mono (dl_mul hu hm) (show a + M - 1 ≤ a + M by omega)) (by omega), this, u0]
    generalize evl i s M m = y
    grind
  rw [← k1]
  rw [show evl i s (7 + (a + M) + (b + b)) P = evl i s (7 + (a + M) + (b + b)) (padd (pl_mul v v) (pl_mul u m)) by rw [← e2], evl_add hi, k2, k3]
  generalize evl i s b v * evl i s b v = y
  grind
/-- the pairs, step by step -/
def epr {q : Nat} (h D : Fin (q + 1)) (n : Nat) (F : PS q) : Fin (q + 1) × Fin (q + 1) := @evl q (Fin (q + 1) × Fin (q + 1)) (pairRing D) (fun a => (a, 0)) (-h, 1) n F
theorem epr_0 {q : Nat} (h D : Fin (q + 1)) (F : PS q) : epr h D 0 F = (0, 0) := rfl
theorem epr_s {q : Nat} (h D : Fin (q + 1)) (n : Nat) (F : PS q) : epr h D (n + 1) F = (F 0 + (-h * (epr h D n (ptl F)).1 + 1 * (epr h D n (ptl F)).2 * D), 0 + (-h * (epr h D n (ptl F)).2 + 1 * (epr h D n (ptl F)).1)) := rfl
theorem epr_2 {q : Nat} (h D : Fin (q + 1)) (F : PS q) : epr h D 2 F = (F 0 - h * F 1, F 1) := by
  rw [epr_s, epr_s, epr_0]
  refine Prod.ext ?_ ?_
  · show F 0 + (-h * (F 1 + (-h * 0 + 1 * 0 * D)) + 1 * (0 + (-h * 0 + 1 * 0)) * D) = F 0 - h * F 1
    generalize F 0 = x
    generalize F 1 = y
    grind
  · show 0 + (-h * (0 + (-h * 0 + 1 * 0)) + 1 * (F 1 + (-h * 0 + 1 * 0 * D))) = F 1
    generalize F 1 = y
    grind
theorem epr_3 {q : Nat} (h D : Fin (q + 1)) (F : PS q) : epr h D 3 F = (F 0 - h * (F 1 - h * F 2) + F 2 * D, (F 1 - h * F 2) - h * F 2) := by
  rw [epr_s, epr_2]
  refine Prod.ext ?_ ?_
  · show F 0 + (-h * (F 1 - h * F 2) + 1 * F 2 * D) = F 0 - h * (F 1 - h * F 2) + F 2 * D
    generalize F 0 = x
    generalize F 1 = y
    generalize F 2 = z
    grind
  · show 0 + (-h * F 2 + 1 * (F 1 - h * F 2)) = (F 1 - h * F 2) - h * F 2
    generalize F 1 = y
    generalize F 2 = z
    grind
/-- from the pairs to the numbers, where D is a square -/
theorem ph_pv {q : Nat} (P : PS q) (h dd : Fin (q + 1)) : (ph P h (dd * dd)).1 + dd * (ph P h (dd * dd)).2 = pv P (-h + dd) := by
  have key : ∀ n (F : PS q), (epr h (dd * dd) n F).1 + dd * (epr h (dd * dd) n F).2 = evl id (-h + dd) n F := by
    intro n
    induction n with
    | zero =>
      intro F
      show (0 : Fin (q + 1)) + dd * 0 = 0
      grind
    | succ n ih =>
      intro F
      have es : evl id (-h + dd) (n + 1) F = F 0 + (-h + dd) * evl id (-h + dd) n (ptl F) := rfl
      rw [es, ← ih (ptl F), epr_s]
      show F 0 + (-h * (epr h (dd * dd) n (ptl F)).1 + 1 * (epr h (dd * dd) n (ptl F)).2 * (dd * dd)) + dd * (0 + (-h * (epr h (dd * dd) n (ptl F)).2 + 1 * (epr h (dd * dd) n (ptl F)).1)) = _
      generalize (epr h (dd * dd) n (ptl F)).1 = x
      generalize (epr h (dd * dd) n (ptl F)).2 = y
      generalize F 0 = z
      grind
  exact key 7 P
/-- a class with u of degree 1 -/
theorem gd_1 {q c v : Nat} (hq : isP q) {P : PS q} (hP : dl P 7) (hc : c < q + 1) (hv : v < q + 1) (hg : gd q P (q + 1 + c) v) : pv P (-Fin.ofNat (q + 1) c) = Fin.ofNat (q + 1) v * Fin.ofNat (q + 1) v := by
  obtain ⟨m, im, e⟩ := (gd_iff (d := 1) hq ⟨7, hP⟩ (by rw [Nat.pow_one]; omega) (by rw [Nat.pow_one]; omega) (by rw [Nat.pow_one]; exact hv)).mp hg
  have hu : dl (pn q (q + 1 + c)) 2 := by rw [pn_lin hq hc]; exact plin_dl _
  have hv1 : dl (pn q v) 1 := pn_dl (by rw [Nat.pow_one]; exact hv)
  have k := evl_gd hm_id (-Fin.ofNat (q + 1) c) hP hu hv1 im e (by
    rw [pn_lin hq hc]
    show Fin.ofNat (q + 1) c + -Fin.ofNat (q + 1) c * (1 + -Fin.ofNat (q + 1) c * 0) = 0
    generalize Fin.ofNat (q + 1) c = x
    grind)
  have ev : evl id (-Fin.ofNat (q + 1) c) 1 (pn q v) = Fin.ofNat (q + 1) v := by
    rw [pn_small hv, evl_c hm_id _ _ 0]
    rfl
  rw [ev] at k
  exact k
/-- a class with u of degree 2 -/
theorem gd_2 {q u1 u0 v : Nat} (hq : isP q) {P : PS q} (hP : dl P 7) (h1 : u1 < q + 1) (h0 : u0 < q + 1) (hv : v < (q + 1) ^ 2) (hg : gd q P ((q + 1) ^ 2 + (u1 * (q + 1) + u0)) v) {h : Fin (q + 1)} (hh : h + h = Fin.ofNat (q + 1) u1) : ph P h (h * h - Fin.ofNat (q + 1) u0) = ((Fin.ofNat (q + 1) v - h * Fin.ofNat (q + 1) (v / (q + 1))) * (Fin.ofNat (q + 1) v - h * Fin.ofNat (q + 1) (v / (q + 1))) + Fin.ofNat (q + 1) (v / (q + 1)) * Fin.ofNat (q + 1) (v / (q + 1)) * (h * h - Fin.ofNat (q + 1) u0), (Fin.ofNat (q + 1) v - h * Fin.ofNat (q + 1) (v / (q + 1))) * Fin.ofNat (q + 1) (v / (q + 1)) + Fin.ofNat (q + 1) (v / (q + 1)) * (Fin.ofNat (q + 1) v - h * Fin.ofNat (q + 1) (v / (q + 1)))) := by
  have hp2 : (q + 1) ^ 2 = (q + 1) * (q + 1) := Nat.pow_two _
  have hb : u1 * (q + 1) + u0 < (q + 1) ^ 2 := by
    have : u1 * (q + 1) ≤ q * (q + 1) := Nat.mul_le_mul_right _ (by omega)
    rw [hp2, Nat.add_mul]
    omega
  have hv2 : v / (q + 1) < q + 1 := Nat.div_lt_of_lt_mul (by rw [← hp2]; exact hv)
  obtain ⟨m, im, e⟩ := (gd_iff (d := 2) hq ⟨7, hP⟩ (by omega) (by omega) hv).mp hg
  obtain ⟨m1, m2⟩ := pn_mon (n := 2) (u := (q + 1) ^ 2 + (u1 * (q + 1) + u0)) hq (by omega) (by omega)
  have en : (q + 1) ^ 2 + (u1 * (q + 1) + u0) = (q + 1) * (q + 1 + u1) + u0 := by
    rw [hp2, Nat.mul_add (q + 1) (q + 1) u1, Nat.mul_comm (q + 1) u1, Nat.add_assoc]
  have c0 : pn q ((q + 1) ^ 2 + (u1 * (q + 1) + u0)) 0 = Fin.ofNat (q + 1) u0 := by
    unfold pn
    rw [Nat.pow_zero, Nat.div_one, en, fo_add q ((q + 1) * (q + 1 + u1)) u0, fo_mul q (q + 1) (q + 1 + u1), fo_p]
    generalize Fin.ofNat (q + 1) (q + 1 + u1) = x
    generalize Fin.ofNat (q + 1) u0 = y
    grind
  have c1 : pn q ((q + 1) ^ 2 + (u1 * (q + 1) + u0)) 1 = Fin.ofNat (q + 1) u1 := by
    unfold pn
    have : ((q + 1) ^ 2 + (u1 * (q + 1) + u0)) / (q + 1) ^ 1 = (q + 1) + u1 := by
      rw [Nat.pow_one, en, Nat.mul_add_div (by omega), Nat.div_eq_of_lt h0, Nat.add_zero]
    rw [this, fo_add q (q + 1) u1, fo_p]
    generalize Fin.ofNat (q + 1) u1 = x
    grind
  generalize eD : h * h - Fin.ofNat (q + 1) u0 = D
  have k := @evl_gd q (Fin (q + 1) × Fin (q + 1)) (pairRing D) (fun a => (a, 0)) (hm_pr D) (-h, 1) P _ _ m 3 2 hP m1 (pn_dl hv) im e (by
    refine Eq.trans (epr_3 h D (pn q ((q + 1) ^ 2 + (u1 * (q + 1) + u0)))) ?_
    rw [c0, c1, m2, ← hh, ← eD]
    generalize Fin.ofNat (q + 1) u0 = x
    refine Prod.ext ?_ ?_
    · show x - h * (h + h - h * 1) + 1 * (h * h - x) = 0
      grind
    · show (h + h - h * 1) - h * 1 = 0
      grind)
  have e2 : epr h D 2 (pn q v) = (Fin.ofNat (q + 1) v - h * Fin.ofNat (q + 1) (v / (q + 1)), Fin.ofNat (q + 1) (v / (q + 1))) := by
    rw [epr_2]
    have a0 : pn q v 0 = Fin.ofNat (q + 1) v := by unfold pn; rw [Nat.pow_zero, Nat.div_one]
    have a1 : pn q v 1 = Fin.ofNat (q + 1) (v / (q + 1)) := by unfold pn; rw [Nat.pow_one]
    rw [a0, a1]
  refine Eq.trans k ?_
  show ((epr h D 2 (pn q v)).1 * (epr h D 2 (pn q v)).1 + (epr h D 2 (pn q v)).2 * (epr h D 2 (pn q v)).2 * D, (epr h D 2 (pn q v)).1 * (epr h D 2 (pn q v)).2 + (epr h D 2 (pn q v)).2 * (epr h D 2 (pn q v)).1) = _
  rw [e2]
