/-! sums and series over a commutative ring -/
def ps_ {R : Type} [Lean.Grind.CommRing R] (f : Nat → R) : Nat → R
  | 0 => 0
  | n + 1 => ps_ f n + f n
theorem ps_cong {R : Type} [Lean.Grind.CommRing R] {f g : Nat → R} : ∀ {n : Nat}, (∀ k, k < n → f k = g k) → ps_ f n = ps_ g n
  | 0, _ => rfl
  | n + 1, h => by
    show ps_ f n + f n = ps_ g n + g n
    rw [ps_cong (fun k hk => h k (by omega)), h n (by omega)]
theorem ps_add {R : Type} [Lean.Grind.CommRing R] (f g : Nat → R) : ∀ n, ps_ (fun k => f k + g k) n = ps_ f n + ps_ g n
  | 0 => by show (0 : R) = 0 + 0; grind
  | n + 1 => by
    show ps_ (fun k => f k + g k) n + (f n + g n) = (ps_ f n + f n) + (ps_ g n + g n)
    rw [ps_add f g n]; grind
theorem ps_mulL {R : Type} [Lean.Grind.CommRing R] (a : R) (f : Nat → R) : ∀ n, ps_ (fun k => a * f k) n = a * ps_ f n
  | 0 => by show (0 : R) = a * 0; grind
  | n + 1 => by
    show ps_ (fun k => a * f k) n + a * f n = a * (ps_ f n + f n)
    rw [ps_mulL a f n]; grind
theorem ps_mulR {R : Type} [Lean.Grind.CommRing R] (a : R) (f : Nat → R) (n : Nat) : ps_ (fun k => f k * a) n = ps_ f n * a := by
  have e : ps_ (fun k => f k * a) n = ps_ (fun k => a * f k) n := ps_cong (fun k _ => by grind)
  rw [e, ps_mulL]; grind
theorem ps_neg {R : Type} [Lean.Grind.CommRing R] (f : Nat → R) : ∀ n, ps_ (fun k => - f k) n = - ps_ f n
  | 0 => by show (0 : R) = - 0; grind
  | n + 1 => by
    show ps_ (fun k => - f k) n + - f n = - (ps_ f n + f n)
    rw [ps_neg f n]; grind
theorem ps_zero {R : Type} [Lean.Grind.CommRing R] {f : Nat → R} : ∀ {n : Nat}, (∀ k, k < n → f k = 0) → ps_ f n = 0
  | 0, _ => rfl
  | n + 1, h => by
    show ps_ f n + f n = 0
    rw [ps_zero (fun k hk => h k (by omega)), h n (by omega)]; grind
theorem ps_one {R : Type} [Lean.Grind.CommRing R] {f : Nat → R} {i : Nat} : ∀ {n : Nat}, i < n → (∀ k, k < n → k ≠ i → f k = 0) → ps_ f n = f i
  | 0, h, _ => absurd h (Nat.not_lt_zero i)
  | n + 1, h, hz => by
    show ps_ f n + f n = f i
    rcases Nat.lt_or_ge i n with q | q
    · rw [ps_one q (fun k hk => hz k (by omega)), hz n (by omega) (by omega)]; grind
    · have e : i = n := by omega
      subst e
      rw [ps_zero (fun k hk => hz k (by omega) (by omega))]; grind
theorem ps_head {R : Type} [Lean.Grind.CommRing R] (f : Nat → R) : ∀ n, ps_ f (n + 1) = f 0 + ps_ (fun k => f (k + 1)) n
  | 0 => by show ps_ f 0 + f 0 = f 0 + 0; show 0 + f 0 = f 0 + 0; grind
  | n + 1 => by
    show ps_ f (n + 1) + f (n + 1) = f 0 + (ps_ (fun k => f (k + 1)) n + f (n + 1))
    rw [ps_head f n]; grind
theorem ps_rev {R : Type} [Lean.Grind.CommRing R] : ∀ (n : Nat) (f : Nat → R), ps_ f n = ps_ (fun k => f (n - 1 - k)) n
  | 0, _ => rfl
  | n + 1, f => by
    rw [ps_head (fun k => f (n + 1 - 1 - k)) n]
    show ps_ f n + f n = f (n + 1 - 1 - 0) + ps_ (fun k => f (n + 1 - 1 - (k + 1))) n
    have e : ps_ (fun k => f (n + 1 - 1 - (k + 1))) n = ps_ (fun k => f (n - 1 - k)) n := ps_cong (fun k hk => by rw [show n + 1 - 1 - (k + 1) = n - 1 - k by omega])
    rw [e, ← ps_rev n f, show n + 1 - 1 - 0 = n by omega]; grind
theorem ps_tri {R : Type} [Lean.Grind.CommRing R] (F : Nat → Nat → R) : ∀ n, ps_ (fun i => ps_ (fun j => F i j) (i + 1)) n = ps_ (fun j => ps_ (fun k => F (j + k) j) (n - j)) n
  | 0 => rfl
  | n + 1 => by
    show ps_ (fun i => ps_ (fun j => F i j) (i + 1)) n + ps_ (fun j => F n j) (n + 1) = ps_ (fun j => ps_ (fun k => F (j + k) j) (n + 1 - j)) n + ps_ (fun k => F (n + k) n) (n + 1 - n)
    rw [ps_tri F n]
    have e1 : ps_ (fun k => F (n + k) n) (n + 1 - n) = F n n := by
      rw [show n + 1 - n = 0 + 1 by omega]
      show (0 : R) + F (n + 0) n = F n n
      rw [Nat.add_zero]; grind
    have e2 : ps_ (fun j => ps_ (fun k => F (j + k) j) (n + 1 - j)) n = ps_ (fun j => ps_ (fun k => F (j + k) j) (n - j) + F n j) n := ps_cong (fun j hj => by
      rw [show n + 1 - j = (n - j) + 1 by omega]
      show ps_ (fun k => F (j + k) j) (n - j) + F (j + (n - j)) j = _
      rw [show j + (n - j) = n by omega])
    rw [e1, e2, ps_add]
    show _ + (ps_ (fun j => F n j) n + F n n) = _
    grind
/-! series: functions of the exponent, with Cauchy's product -/
def pl_mul {R : Type} [Lean.Grind.CommRing R] (f g : Nat → R) : Nat → R := fun n => ps_ (fun i => f i * g (n - i)) (n + 1)
theorem pl_mul_comm {R : Type} [Lean.Grind.CommRing R] (f g : Nat → R) : pl_mul f g = pl_mul g f := by
  funext n
  show ps_ (fun i => f i * g (n - i)) (n + 1) = ps_ (fun i => g i * f (n - i)) (n + 1)
  rw [ps_rev (n + 1) (fun i => f i * g (n - i))]
  apply ps_cong
  intro k hk
  show f (n + 1 - 1 - k) * g (n - (n + 1 - 1 - k)) = _
  rw [show n + 1 - 1 - k = n - k by omega, show n - (n - k) = k by omega]; grind
theorem pl_mul_assoc {R : Type} [Lean.Grind.CommRing R] (f g h : Nat → R) : pl_mul (pl_mul f g) h = pl_mul f (pl_mul g h) := by
  funext n
  show ps_ (fun i => ps_ (fun j => f j * g (i - j)) (i + 1) * h (n - i)) (n + 1) = ps_ (fun j => f j * ps_ (fun k => g k * h (n - j - k)) (n - j + 1)) (n + 1)
  have e1 : ps_ (fun i => ps_ (fun j => f j * g (i - j)) (i + 1) * h (n - i)) (n + 1) = ps_ (fun i => ps_ (fun j => f j * g (i - j) * h (n - i)) (i + 1)) (n + 1) := ps_cong (fun i _ => (ps_mulR _ _ _).symm)
  rw [e1, ps_tri (fun i j => f j * g (i - j) * h (n - i)) (n + 1)]
  apply ps_cong
  intro j hj
  rw [← ps_mulL, show n + 1 - j = n - j + 1 by omega]
  apply ps_cong
  intro k hk
  show f j * g (j + k - j) * h (n - (j + k)) = f j * (g k * h (n - j - k))
  rw [show j + k - j = k by omega, show n - (j + k) = n - j - k by omega]; grind
def pl_c {R : Type} [Lean.Grind.CommRing R] (a : R) : Nat → R := fun n => if n = 0 then a else 0
theorem pl_mul_c {R : Type} [Lean.Grind.CommRing R] (f : Nat → R) (a : R) : pl_mul f (pl_c a) = fun n => f n * a := by
  funext n
  show ps_ (fun i => f i * pl_c a (n - i)) (n + 1) = f n * a
  rw [ps_one (i := n) (by omega) (fun k hk hne => by
    show f k * pl_c a (n - k) = 0
    rw [pl_c, if_neg (by omega)]; grind)]
  show f n * pl_c a (n - n) = f n * a
  rw [pl_c, if_pos (by omega)]
theorem pl_mul_add {R : Type} [Lean.Grind.CommRing R] (f g h : Nat → R) : pl_mul f (fun n => g n + h n) = fun n => pl_mul f g n + pl_mul f h n := by
  funext n
  show ps_ (fun i => f i * (g (n - i) + h (n - i))) (n + 1) = ps_ (fun i => f i * g (n - i)) (n + 1) + ps_ (fun i => f i * h (n - i)) (n + 1)
  rw [← ps_add]
  exact ps_cong (fun k _ => by grind)
theorem pl_mul_zero {R : Type} [Lean.Grind.CommRing R] (f : Nat → R) : pl_mul (fun _ => 0) f = fun _ => (0 : R) := by
  funext n
  exact ps_zero (fun k _ => by show (0 : R) * _ = 0; grind)
abbrev Ser (R : Type) : Type := Nat → R
def pl_pow {R : Type} [Lean.Grind.CommRing R] (f : Nat → R) : Nat → (Nat → R)
  | 0 => pl_c 1
  | n + 1 => pl_mul (pl_pow f n) f
theorem pl_c_add {R : Type} [Lean.Grind.CommRing R] (a b : R) : pl_c (a + b) = fun n => pl_c a n + pl_c b n := by
  funext n; unfold pl_c; split <;> grind
theorem pl_c_neg {R : Type} [Lean.Grind.CommRing R] (a : R) : pl_c (- a) = fun n => - pl_c a n := by
  funext n; unfold pl_c; split <;> grind
theorem pl_c_zero {R : Type} [Lean.Grind.CommRing R] : pl_c (0 : R) = fun _ => 0 := by
  funext n; unfold pl_c; split <;> rfl
/-- the ring of series -/
def serRing (R : Type) [iR : Lean.Grind.CommRing R] : Lean.Grind.CommRing (Ser R) :=
  letI : NatCast R := iR.natCast
  letI : IntCast R := iR.intCast
  { add := fun f g n => f n + g n
    mul := fun f g => pl_mul f g
    neg := fun f n => - f n
    sub := fun f g n => f n - g n
    natCast := ⟨fun k => pl_c (k : R)⟩
    ofNat := fun k => ⟨pl_c (k : R)⟩
    nsmul := ⟨fun k f => pl_mul (pl_c (k : R)) f⟩
    npow := ⟨fun f k => pl_pow f k⟩
    intCast := ⟨fun k => pl_c (k : R)⟩
    zsmul := ⟨fun k f => pl_mul (pl_c (k : R)) f⟩
    add_zero := fun f => by
      funext n
      show f n + pl_c ((0 : Nat) : R) n = f n
      rw [← Lean.Grind.Semiring.ofNat_eq_natCast, pl_c_zero]; grind
    add_comm := fun f g => by funext n; show f n + g n = g n + f n; grind
    add_assoc := fun f g h => by funext n; show f n + g n + h n = f n + (g n + h n); grind
    mul_assoc := fun f g h => pl_mul_assoc f g h
    mul_comm := fun f g => pl_mul_comm f g
    mul_one := fun f => by
      show pl_mul f (pl_c ((1 : Nat) : R)) = f
      rw [pl_mul_c]; funext n; rw [← Lean.Grind.Semiring.ofNat_eq_natCast]; grind
    one_mul := fun f => by
      show pl_mul (pl_c ((1 : Nat) : R)) f = f
      rw [pl_mul_comm, pl_mul_c]; funext n; rw [← Lean.Grind.Semiring.ofNat_eq_natCast]; grind
    left_distrib := fun f g h => pl_mul_add f g h
    right_distrib := fun f g h => by
      show pl_mul (fun n => f n + g n) h = fun n => pl_mul f h n + pl_mul g h n
      rw [pl_mul_comm, pl_mul_add, pl_mul_comm h f, pl_mul_comm h g]
    mul_zero := fun f => by
      show pl_mul f (pl_c ((0 : Nat) : R)) = pl_c ((0 : Nat) : R)
      rw [← Lean.Grind.Semiring.ofNat_eq_natCast, pl_c_zero, pl_mul_comm, pl_mul_zero]
    zero_mul := fun f => by
      show pl_mul (pl_c ((0 : Nat) : R)) f = pl_c ((0 : Nat) : R)
      rw [← Lean.Grind.Semiring.ofNat_eq_natCast, pl_c_zero, pl_mul_zero]
    pow_zero := fun f => by
      show pl_c 1 = pl_c ((1 : Nat) : R)
      rw [← Lean.Grind.Semiring.ofNat_eq_natCast]
    pow_succ := fun f n => rfl
    ofNat_succ := fun k => by
      show pl_c ((k + 1 : Nat) : R) = fun n => pl_c (k : R) n + pl_c ((1 : Nat) : R) n
      rw [← pl_c_add]
      congr 1
      rw [← Lean.Grind.Semiring.ofNat_eq_natCast, ← Lean.Grind.Semiring.ofNat_eq_natCast, ← Lean.Grind.Semiring.ofNat_eq_natCast, Lean.Grind.Semiring.ofNat_succ]
    ofNat_eq_natCast := fun _ => rfl
    nsmul_eq_natCast_mul := fun _ _ => rfl
    neg_add_cancel := fun f => by
      funext n
      show - f n + f n = pl_c ((0 : Nat) : R) n
      rw [← Lean.Grind.Semiring.ofNat_eq_natCast, pl_c_zero]; grind
    sub_eq_add_neg := fun f g => by funext n; show f n - g n = f n + - g n; grind
    neg_zsmul := fun i f => by
      show pl_mul (pl_c ((-i : Int) : R)) f = fun n => - pl_mul (pl_c (i : R)) f n
      rw [Lean.Grind.Ring.intCast_neg, pl_mul_comm, pl_mul_comm (pl_c (i : R)), pl_mul_c, pl_mul_c]
      funext n; grind
    zsmul_natCast_eq_nsmul := fun k f => by
      show pl_mul (pl_c (((k : Int)) : R)) f = pl_mul (pl_c (k : R)) f
      have e1 : ((k : Int) : R) = ((k : Nat) : R) := (Lean.Grind.Ring.intCast_ofNat (α := R) k).trans (Lean.Grind.Semiring.ofNat_eq_natCast (α := R) k)
      rw [e1]
    intCast_ofNat := fun k => by
      show pl_c ((OfNat.ofNat k : Int) : R) = pl_c (k : R)
      rw [Lean.Grind.Ring.intCast_ofNat, Lean.Grind.Semiring.ofNat_eq_natCast]
    intCast_neg := fun i => by
      show pl_c ((-i : Int) : R) = fun n => - pl_c (i : R) n
      rw [Lean.Grind.Ring.intCast_neg, pl_c_neg] }
