/-- x^k times f -/
def psh {q : Nat} (k : Nat) (f : PS q) : PS q := fun n => if n < k then 0 else f (n - k)
theorem dl_sh {q m : Nat} (k : Nat) {f : PS q} (hf : dl f m) : dl (psh k f) (m + k) := fun i hi => by
  unfold psh; rw [if_neg (by omega)]; exact hf _ (by omega)
theorem nu_sh {q : Nat} (k m : Nat) (f : PS q) : nu q (k + m) (psh k f) = nu q m f * (q + 1) ^ k := by
  rw [nu_split, nu_zero (f := psh k f) (fun j hj => by unfold psh; rw [if_pos hj]), Nat.zero_add, Nat.mul_comm]
  congr 1
  exact nu_cong (fun j _ => by show psh k f (k + j) = f j; unfold psh; rw [if_neg (by omega), show k + j - k = j by omega])
theorem Ni_sh {q m k : Nat} (hq : isP q) (hm : (q + 1) ^ (m + k) < 2 ^ 30) {f : PS q} (hf : dl f m) : Ni q f * nI ((q + 1) ^ k) = Ni q (psh k f) := by
  have hl := isP_lo hq
  have h1 : (q + 1) ^ m < 2 ^ 30 := Nat.lt_of_le_of_lt (Nat.pow_le_pow_right (by omega) (by omega)) hm
  rw [Ni_dl hl.1 h1 hf, Ni_dl hl.1 hm (dl_sh k hf), pk_mul, Nat.add_comm m k, nu_sh]
/-- the first i steps of the product -/
def ppr {q : Nat} (f g : PS q) : Nat → PS q
  | 0 => fun _ => 0
  | i + 1 => padd (ppr f g i) (psh i (pscl f (g i)))
theorem ppr_eq {q : Nat} (f g : PS q) (n : Nat) : ∀ i, ppr f g i n = ps_ (fun j => if n < j then 0 else g j * f (n - j)) i
  | 0 => rfl
  | i + 1 => by
    show ppr f g i n + psh i (pscl f (g i)) n = ps_ (fun j => if n < j then 0 else g j * f (n - j)) i + (if n < i then 0 else g i * f (n - i))
    rw [ppr_eq f g n i]
    unfold psh pscl
    split
    · rfl
    · congr 1; grind
theorem ps_ext {R : Type} [Lean.Grind.CommRing R] {f : Nat → R} {n : Nat} : ∀ d, (∀ k, n ≤ k → k < n + d → f k = 0) → ps_ f (n + d) = ps_ f n
  | 0, _ => rfl
  | d + 1, h => by
    show ps_ f (n + d) + f (n + d) = ps_ f n
    rw [ps_ext d (fun k h1 h2 => h k h1 (by omega)), h (n + d) (by omega) (by omega)]; grind
theorem ppr_mul {q m : Nat} (f g : PS q) (hg : dl g m) : ppr f g m = pl_mul f g := by
  rw [pl_mul_comm]
  funext n
  rw [ppr_eq]
  show _ = ps_ (fun j => g j * f (n - j)) (n + 1)
  have e1 : ps_ (fun j => if n < j then 0 else g j * f (n - j)) (n + 1) = ps_ (fun j => g j * f (n - j)) (n + 1) := ps_cong (fun k hk => by
    show (if n < k then 0 else g k * f (n - k)) = g k * f (n - k)
    rw [if_neg (by omega)])
  rw [← e1]
  rcases Nat.lt_or_ge m (n + 1) with h | h
  · have := ps_ext (f := fun j => if n < j then 0 else g j * f (n - j)) (n := m) (n + 1 - m) (fun k h1 h2 => by
      show (if n < k then 0 else g k * f (n - k)) = 0
      split
      · rfl
      · rw [hg k h1]; grind)
    rw [show m + (n + 1 - m) = n + 1 by omega] at this
    exact this.symm
  · have := ps_ext (f := fun j => if n < j then 0 else g j * f (n - j)) (n := n + 1) (m - (n + 1)) (fun k h1 h2 => by
      show (if n < k then 0 else g k * f (n - k)) = 0
      rw [if_pos (by omega)])
    rw [show n + 1 + (m - (n + 1)) = m by omega] at this
    exact this
theorem ppr_dl {q a : Nat} {f : PS q} (hf : dl f a) (g : PS q) : ∀ i, dl (ppr f g i) (a + i - 1)
  | 0 => fun _ _ => rfl
  | i + 1 => by
    rcases Nat.eq_zero_or_pos a with z | z
    · subst z
      intro n hn
      rw [ppr_eq]
      exact ps_zero (fun k _ => by
        show (if n < k then 0 else g k * f (n - k)) = 0
        split
        · rfl
        · rw [hf _ (by omega)]; grind)
    · exact dl_add (dl_mono (ppr_dl hf g i) (by omega)) (dl_mono (dl_sh i (dl_scl hf (g i))) (by omega))
theorem dl_mul {q a b : Nat} {f g : PS q} (hf : dl f a) (hg : dl g b) : dl (pl_mul f g) (a + b - 1) := by
  rw [← ppr_mul f g hg]; exact ppr_dl hf g b
theorem l_pro {t : fcS} {q a b M : Nat} (hq : isP q) (hp : rp t q) (ha1 : 1 ≤ a) (hM : a + b ≤ M + 1) (hm : (q + 1) ^ M < 2 ^ 30) {f g : PS q} (hf : dl f a) {post : Int32 → fcS → Prop} (h : post (Ni q (ppr f g b)) t) (hg : dl g b) : ∀ d i, i + d = b → q_X3_product_11 post (d + 1) (Ni q f) (nI (nu q (b - i) (fun j => g (i + j)))) (nI ((q + 1) ^ i)) (Ni q (ppr f g i)) (nI i) t := by
  have hl := isP_lo hq
  have h18 := pow18 hl.1 hm
  have hb : (q + 1) ^ b < 2 ^ 30 := Nat.lt_of_le_of_lt (Nat.pow_le_pow_right (by omega) (by omega)) hm
  have haM : (q + 1) ^ a < 2 ^ 30 ∨ b = 0 := by
    rcases Nat.eq_zero_or_pos b with z | z
    · exact Or.inr z
    · exact Or.inl (Nat.lt_of_le_of_lt (Nat.pow_le_pow_right (by omega) (by omega)) hm)
  have hex : ∀ i, i ≤ b → nu q (b - i) (fun j => g (i + j)) = 0 → post (Ni q (ppr f g i)) t := by
    intro i hi z
    have hz : dl g i := fun n hn => by
      rcases Nat.lt_or_ge n b with w | w
      · have := nu_zero_inv z (n - i) (by omega)
        rw [show i + (n - i) = n by omega] at this
        exact this
      · exact hg n w
    rw [ppr_mul f g hz, ← ppr_mul f g hg]; exact h
  intro d
  induction d with
  | zero =>
    intro i e
    unfold q_X3_product_11
    have hA : nu q (b - i) (fun j => g (i + j)) = 0 := by rw [show b - i = 0 by omega]; rfl
    have := hex i (by omega) hA
    exact ⟨fun _ => this, fun _ => ⟨fun _ => this, fun c => absurd (by rw [hA]; decide) c⟩⟩
  | succ d ih =>
    intro i e
    unfold q_X3_product_11
    have bA : nu q (b - i) (fun j => g (i + j)) < 2 ^ 30 := nu_le hb (by omega) _
    refine ⟨fun c => absurd ((nI_leI (a := 20) (by omega) (by omega)).mp c) (by omega), fun _ => ⟨fun c => hex i (by omega) (nI_le0 (by omega) c), fun _ => ⟨rp_ne hp hq, ?_⟩⟩⟩
    have hk : b - i = (b - (i + 1)) + 1 := by omega
    have fa := nu_at (i := i) (k := b - (i + 1)) g
    rw [hk] at bA ⊢
    rw [show fgi t 1 0 = nI (q + 1) from hp, rem_nI (by omega) (by omega) (by omega), fa.1]
    have ha : (q + 1) ^ a < 2 ^ 30 := by rcases haM with z | z; exact z; omega
    refine s_scl hq hp ha hf (g i) ?_
    have hai : (q + 1) ^ (a + i) < 2 ^ 30 := Nat.lt_of_le_of_lt (Nat.pow_le_pow_right (by omega) (by omega)) hm
    rw [Ni_sh hq hai (dl_scl hf (g i))]
    refine s_sum hq hp hai (dl_mono (ppr_dl hf g i) (by omega)) (dl_sh i (dl_scl hf (g i))) ?_
    refine ⟨rp_ne hp hq, fun x5 e5 x6 e6 x7 e7 => ?_⟩
    rw [show fgi t 1 0 = nI (q + 1) from hp] at e5 e6
    rw [pk_div (by omega) (by omega) (by omega), fa.2] at e5
    rw [pk_mul, ← Nat.pow_succ] at e6
    have e7 : x7 = nI (i + 1) := by rw [e7, nI_1]
    rw [e5, e6, e7]
    exact ih (i + 1) (by omega)
theorem Ni_zero {q : Nat} : Ni q (fun _ => 0) = 0 := by
  unfold Ni; rw [nu_zero (fun _ _ => rfl)]; rfl
theorem s_pro {t : fcS} {q a b M : Nat} (hq : isP q) (hp : rp t q) (ha1 : 1 ≤ a) (hM : a + b ≤ M + 1) (hm : (q + 1) ^ M < 2 ^ 30) {f g : PS q} (hf : dl f a) (hg : dl g b) {post : Int32 → fcS → Prop} (h : post (Ni q (pl_mul f g)) t) : q_X3_product t (Ni q f) (Ni q g) post := by
  have hl := isP_lo hq
  rw [← ppr_mul f g hg] at h
  have := l_pro hq hp ha1 hM hm hf h hg b 0 (by omega)
  refine ⟨b + 1, ?_⟩
  have hb : (q + 1) ^ b < 2 ^ 30 := Nat.lt_of_le_of_lt (Nat.pow_le_pow_right (by omega) (by omega)) hm
  rw [Ni_dl hl.1 hb hg]
  rw [show b - 0 = b by omega, Nat.pow_zero] at this
  have e1 : nu q b (fun j => g (0 + j)) = nu q b g := nu_cong (fun j _ => by rw [Nat.zero_add])
  rw [e1, show Ni q (ppr f g 0) = 0 from Ni_zero] at this
  exact this
/-! inverses -/
theorem l_inv0 {t : fcS} {q : Nat} (hq : isP q) (hp : rp t q) {post : Int32 → fcS → Prop} (h : post 0 t) : ∀ d i, i + d = q + 1 → q_X3_inverse_2 post (d + 1) (nI 0) (nI i) t := by
  have hl := isP_lo hq
  intro d
  induction d with
  | zero =>
    intro i e
    unfold q_X3_inverse_2
    refine ⟨fun _ => h, fun c => absurd ?_ c⟩
    rw [show fgi t 1 0 = nI (q + 1) from hp]; exact nI_le (by omega) (by omega)
  | succ d ih =>
    intro i e
    unfold q_X3_inverse_2
    refine ⟨fun _ => h, fun _ => ⟨rp_ne hp hq, fun _ x1 e1 => ?_, fun c => ?_⟩⟩
    · rw [e1, nI_1]; exact ih (i + 1) (by omega)
    · rw [show fgi t 1 0 = nI (q + 1) from hp, pk_mul, Nat.zero_mul, rem_nI (by omega) (by omega) (by omega), Nat.zero_mod] at c
      exact absurd c (by decide)
theorem l_inv {t : fcS} {q : Nat} (hq : isP q) (hp : rp t q) {post : Int32 → fcS → Prop} {c k : Nat} (hc : c < q + 1) (hk : k < q + 1) (h1 : c * k % (q + 1) = 1) (hu : ∀ j, j < k → c * j % (q + 1) ≠ 1) (h : post (nI k) t) : ∀ d i, i + d = k → q_X3_inverse_2 post (d + 1) (nI c) (nI i) t := by
  have hl := isP_lo hq
  have lm : ∀ i, i ≤ k → c * i < 2 ^ 31 := fun i hi => Nat.lt_of_le_of_lt (Nat.mul_le_mul (show c ≤ 12 by omega) (show i ≤ 12 by omega)) (by decide)
  intro d
  induction d with
  | zero =>
    intro i e
    have e : i = k := by omega
    subst e
    unfold q_X3_inverse_2
    refine ⟨fun c9 => ?_, fun _ => ⟨rp_ne hp hq, fun c9 => absurd ?_ c9, fun _ => h⟩⟩
    · rw [show fgi t 1 0 = nI (q + 1) from hp] at c9
      exact absurd ((nI_leI (by omega) (by omega)).mp c9) (by omega)
    · rw [show fgi t 1 0 = nI (q + 1) from hp, pk_mul, rem_nI (lm i (Nat.le_refl i)) (by omega) (by omega), h1]; rfl
  | succ d ih =>
    intro i e
    unfold q_X3_inverse_2
    refine ⟨fun c9 => ?_, fun _ => ⟨rp_ne hp hq, fun _ x1 e1 => ?_, fun c9 => ?_⟩⟩
    · rw [show fgi t 1 0 = nI (q + 1) from hp] at c9
      exact absurd ((nI_leI (by omega) (by omega)).mp c9) (by omega)
    · rw [e1, nI_1]; exact ih (i + 1) (by omega)
    · rw [show fgi t 1 0 = nI (q + 1) from hp, pk_mul, rem_nI (lm i (by omega)) (by omega) (by omega)] at c9
      have hm := Nat.mod_lt (c * i) (show 0 < q + 1 by omega)
      exact absurd ((nI_eq (by omega) (by omega)).mp (show nI (c * i % (q + 1)) = nI 1 from c9)) (hu i (by omega))
/-- the inverse of a number of F(1); 0 of 0 -/
def fiv (q : Nat) (c : Fin (q + 1)) : Fin (q + 1) := Fin.ofNat (q + 1) (((List.range (q + 1)).find? (fun i => c.val * i % (q + 1) == 1)).getD 0)
theorem fiv_ok {q : Nat} (hq : isP q) : ∀ c : Fin (q + 1), (c = 0 → fiv q c = 0) ∧ (c ≠ 0 → c.val * (fiv q c).val % (q + 1) = 1 ∧ ∀ j, j < (fiv q c).val → c.val * j % (q + 1) ≠ 1) := by
  rcases hq with rfl | rfl | rfl | rfl | rfl <;> decide +kernel
theorem fiv_mul {q : Nat} (hq : isP q) {c : Fin (q + 1)} (hc : c ≠ 0) : c * fiv q c = 1 := by
  have hl := isP_lo hq
  apply Fin.ext
  rw [Fin.val_mul, ((fiv_ok hq c).2 hc).1]
  show 1 = 1 % (q + 1)
  rw [Nat.mod_eq_of_lt (by omega)]
theorem s_inv {t : fcS} {q : Nat} (hq : isP q) (hp : rp t q) {post : Int32 → fcS → Prop} (c : Fin (q + 1)) (h : post (nI (fiv q c).val) t) : q_X3_inverse t (nI c.val) post := by
  have hl := isP_lo hq
  by_cases hc : c = 0
  · subst hc
    rw [(fiv_ok hq 0).1 rfl] at h
    exact ⟨q + 1, l_inv0 hq hp h q 1 (by omega)⟩
  · obtain ⟨h1, h2⟩ := (fiv_ok hq c).2 hc
    have hk : 1 ≤ (fiv q c).val := by
      rcases Nat.eq_zero_or_pos (fiv q c).val with z | z
      · rw [z, Nat.mul_zero, Nat.zero_mod] at h1; omega
      · exact z
    exact ⟨_, l_inv hq hp c.isLt (fiv q c).isLt h1 h2 h ((fiv q c).val - 1) 1 (by omega)⟩
