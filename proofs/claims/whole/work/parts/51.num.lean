/-! polynomials over Fin (q + 1) as series; numbers in base q + 1 -/
abbrev PS (q : Nat) : Type := Ser (Fin (q + 1))
/-- the degree is below n -/
def dl {q : Nat} (f : PS q) (n : Nat) : Prop := ∀ i, n ≤ i → f i = 0
def nu (q : Nat) : Nat → PS q → Nat
  | 0, _ => 0
  | n + 1, f => (f 0).val + (q + 1) * nu q n (fun i => f (i + 1))
theorem nu_cong {q : Nat} : ∀ {n : Nat} {f g : PS q}, (∀ j, j < n → f j = g j) → nu q n f = nu q n g
  | 0, _, _, _ => rfl
  | n + 1, f, g, h => by
    show (f 0).val + (q + 1) * nu q n (fun i => f (i + 1)) = (g 0).val + (q + 1) * nu q n (fun i => g (i + 1))
    rw [h 0 (by omega), nu_cong (f := fun i => f (i + 1)) (g := fun i => g (i + 1)) (fun j hj => h (j + 1) (by omega))]
theorem nu_lt {q : Nat} : ∀ (n : Nat) (f : PS q), nu q n f < (q + 1) ^ n
  | 0, _ => by show 0 < 1; omega
  | n + 1, f => by
    have h1 := nu_lt n (fun i => f (i + 1))
    have h2 := (f 0).isLt
    show (f 0).val + (q + 1) * nu q n (fun i => f (i + 1)) < (q + 1) ^ (n + 1)
    rw [Nat.pow_succ, Nat.mul_comm ((q + 1) ^ n)]
    have h3 : (q + 1) * nu q n (fun i => f (i + 1)) + (q + 1) ≤ (q + 1) * (q + 1) ^ n := by
      rw [← Nat.mul_succ]; exact Nat.mul_le_mul_left _ h1
    omega
theorem nu_mod {q : Nat} (n : Nat) (f : PS q) : nu q (n + 1) f % (q + 1) = (f 0).val := by
  show ((f 0).val + (q + 1) * nu q n (fun i => f (i + 1))) % (q + 1) = _
  rw [Nat.add_mul_mod_self_left]; exact Nat.mod_eq_of_lt (f 0).isLt
theorem nu_div {q : Nat} (n : Nat) (f : PS q) : nu q (n + 1) f / (q + 1) = nu q n (fun i => f (i + 1)) := by
  show ((f 0).val + (q + 1) * nu q n (fun i => f (i + 1))) / (q + 1) = _
  rw [Nat.add_mul_div_left _ _ (by omega), Nat.div_eq_of_lt (f 0).isLt, Nat.zero_add]
theorem nu_split {q : Nat} : ∀ (i m : Nat) (f : PS q), nu q (i + m) f = nu q i f + (q + 1) ^ i * nu q m (fun j => f (i + j))
  | 0, m, f => by
    show nu q (0 + m) f = 0 + 1 * nu q m (fun j => f (0 + j))
    rw [Nat.zero_add, Nat.zero_add, Nat.one_mul]
    exact nu_cong (fun j _ => by rw [Nat.zero_add])
  | i + 1, m, f => by
    have h := nu_split i m (fun j => f (j + 1))
    rw [show i + 1 + m = i + m + 1 by omega]
    show (f 0).val + (q + 1) * nu q (i + m) (fun j => f (j + 1)) = (f 0).val + (q + 1) * nu q i (fun j => f (j + 1)) + (q + 1) ^ (i + 1) * nu q m (fun j => f (i + 1 + j))
    have e : nu q m (fun j => f (i + 1 + j)) = nu q m (fun j => f (i + j + 1)) := nu_cong (fun j _ => by
      show f (i + 1 + j) = f (i + j + 1)
      rw [show i + j + 1 = i + 1 + j by omega])
    rw [h, e, Nat.mul_add, Nat.pow_succ, Nat.mul_comm ((q + 1) ^ i) (q + 1), Nat.mul_assoc, Nat.add_assoc]
theorem nu_succ {q : Nat} (i : Nat) (f : PS q) : nu q (i + 1) f = nu q i f + (f i).val * (q + 1) ^ i := by
  rw [nu_split i 1 f]
  show nu q i f + (q + 1) ^ i * ((f (i + 0)).val + (q + 1) * 0) = _
  rw [Nat.mul_zero]
  exact congrArg (nu q i f + ·) (Nat.mul_comm _ _)
theorem nu_zero {q : Nat} {f : PS q} : ∀ {n : Nat}, (∀ j, j < n → f j = 0) → nu q n f = 0 := by
  intro n
  induction n generalizing f with
  | zero => intro _; rfl
  | succ n ih =>
    intro h
    show (f 0).val + (q + 1) * nu q n (fun i => f (i + 1)) = 0
    rw [h 0 (by omega), ih (f := fun i => f (i + 1)) (fun j hj => h (j + 1) (by omega))]; rfl
theorem nu_zero_inv {q : Nat} {f : PS q} : ∀ {n : Nat}, nu q n f = 0 → ∀ j, j < n → f j = 0 := by
  intro n
  induction n generalizing f with
  | zero => intro _ j hj; omega
  | succ n ih =>
    intro h j hj
    have h : (f 0).val + (q + 1) * nu q n (fun i => f (i + 1)) = 0 := h
    have h0 : (f 0).val = 0 := by omega
    have h1 : (q + 1) * nu q n (fun i => f (i + 1)) = 0 := by omega
    have h2 : nu q n (fun i => f (i + 1)) = 0 := by
      rcases Nat.mul_eq_zero.mp h1 with z | z
      · omega
      · exact z
    cases j with
    | zero => exact Fin.ext h0
    | succ j => exact ih (f := fun i => f (i + 1)) h2 j (by omega)
theorem nu_dl {q : Nat} {f : PS q} {m n : Nat} (h : dl f m) (hmn : m ≤ n) : nu q n f = nu q m f := by
  rw [show n = m + (n - m) by omega, nu_split, nu_zero (f := fun j => f (m + j)) (fun j _ => h _ (by omega)), Nat.mul_zero, Nat.add_zero]
/-- the series of a number -/
def pn (q a : Nat) : PS q := fun i => Fin.ofNat (q + 1) (a / (q + 1) ^ i)
theorem pn_val (q a i : Nat) : (pn q a i).val = a / (q + 1) ^ i % (q + 1) := rfl
theorem pn_shift (q a : Nat) : (fun i => pn q a (i + 1)) = pn q (a / (q + 1)) := by
  funext i
  apply Fin.ext
  rw [pn_val, pn_val, Nat.div_div_eq_div_mul, Nat.pow_succ, Nat.mul_comm]
theorem nu_pn {q : Nat} : ∀ {n a : Nat}, a < (q + 1) ^ n → nu q n (pn q a) = a
  | 0, a, h => by
    have h : a < 1 := h
    show 0 = a; omega
  | n + 1, a, h => by
    show (pn q a 0).val + (q + 1) * nu q n (fun i => pn q a (i + 1)) = a
    rw [pn_shift, nu_pn (n := n) (a := a / (q + 1)) (by rw [Nat.div_lt_iff_lt_mul (by omega), ← Nat.pow_succ]; exact h), pn_val, Nat.pow_zero, Nat.div_one]
    exact Nat.mod_add_div a (q + 1)
theorem pn_dl {q n a : Nat} (h : a < (q + 1) ^ n) : dl (pn q a) n := fun i hi => by
  apply Fin.ext
  rw [pn_val, Nat.div_eq_of_lt (Nat.lt_of_lt_of_le h (Nat.pow_le_pow_right (by omega) hi))]
  rfl
theorem pn_nu {q : Nat} : ∀ {n : Nat} {f : PS q}, dl f n → pn q (nu q n f) = f := by
  intro n
  induction n with
  | zero =>
    intro f h
    funext i
    rw [h i (by omega)]
    apply Fin.ext
    show 0 / (q + 1) ^ i % (q + 1) = 0
    rw [Nat.zero_div]; rfl
  | succ n ih =>
    intro f h
    funext i
    cases i with
    | zero =>
      apply Fin.ext
      rw [pn_val, Nat.pow_zero, Nat.div_one, nu_mod]
    | succ i =>
      have e := congrFun (pn_shift q (nu q (n + 1) f)) i
      show pn q (nu q (n + 1) f) (i + 1) = f (i + 1)
      rw [show pn q (nu q (n + 1) f) (i + 1) = pn q (nu q (n + 1) f / (q + 1)) i from e, nu_div]
      exact congrFun (ih (f := fun i => f (i + 1)) (fun j hj => h (j + 1) (by omega))) i
theorem pn_inj {q a b n : Nat} (ha : a < (q + 1) ^ n) (hb : b < (q + 1) ^ n) (h : pn q a = pn q b) : a = b := by
  rw [← nu_pn ha, ← nu_pn hb, h]
theorem dl_mono {q m n : Nat} {f : PS q} (h : dl f m) (hmn : m ≤ n) : dl f n := fun i hi => h i (by omega)
/-- the int of a polynomial -/
def Ni (q : Nat) (f : PS q) : Int32 := nI (nu q 18 f)
theorem pow18 {q m : Nat} (hq : 2 ≤ q) (hm : (q + 1) ^ m < 2 ^ 30) : m ≤ 18 := by
  rcases Nat.lt_or_ge 18 m with h | h
  · have h1 : 3 ^ 19 ≤ 3 ^ m := Nat.pow_le_pow_right (by omega) h
    have h2 : 3 ^ m ≤ (q + 1) ^ m := Nat.pow_le_pow_left (by omega) m
    have h3 : (3 : Nat) ^ 19 = 1162261467 := by decide
    omega
  · exact h
theorem Ni_dl {q m : Nat} (hq : 2 ≤ q) (hm : (q + 1) ^ m < 2 ^ 30) {f : PS q} (hf : dl f m) : Ni q f = nI (nu q m f) := by
  unfold Ni; rw [nu_dl hf (pow18 hq hm)]
theorem rem_nI {a d : Nat} (ha : a < 2 ^ 31) (h0 : 0 < d) (hd : d < 2 ^ 31) : irm (nI a) (nI d) = nI (a % d) := pk_rem ha h0 hd
