theorem nu_at {q i k : Nat} (f : PS q) : nu q (k + 1) (fun j => f (i + j)) % (q + 1) = (f i).val ∧ nu q (k + 1) (fun j => f (i + j)) / (q + 1) = nu q k (fun j => f (i + 1 + j)) := by
  refine ⟨by rw [nu_mod]; rfl, ?_⟩
  rw [nu_div]
  exact nu_cong (fun j _ => by show f (i + (j + 1)) = f (i + 1 + j); rw [show i + (j + 1) = i + 1 + j by omega])
theorem nu_part {q i m : Nat} (hi : i ≤ m) (s : PS q) : nu q m s = nu q i s + (q + 1) ^ i * nu q (m - i) (fun j => s (i + j)) := by
  have := nu_split i (m - i) s
  rw [show i + (m - i) = m by omega] at this
  exact this
theorem nu_le {q m : Nat} (hm : (q + 1) ^ m < 2 ^ 30) {k : Nat} (hk : k ≤ m) (f : PS q) : nu q k f < 2 ^ 30 := by
  have h1 := nu_lt k f
  have h2 : (q + 1) ^ k ≤ (q + 1) ^ m := Nat.pow_le_pow_right (by omega) hk
  omega
theorem nI_le0 {a : Nat} (ha : a < 2 ^ 31) (h : nI a ≤ 0) : a = 0 := by
  rcases Nat.eq_zero_or_pos a with z | z
  · exact z
  · exact absurd h (nI_nle z ha)
theorem nI_gt0 {a : Nat} (h : ¬ nI a ≤ 0) : 0 < a := by
  rcases Nat.eq_zero_or_pos a with z | z
  · subst z; exact absurd (by decide) h
  · exact z
def padd {q : Nat} (f g : PS q) : PS q := fun n => f n + g n
def psub {q : Nat} (f g : PS q) : PS q := fun n => f n - g n
def pscl {q : Nat} (f : PS q) (c : Fin (q + 1)) : PS q := fun n => f n * c
theorem dl_add {q m : Nat} {f g : PS q} (hf : dl f m) (hg : dl g m) : dl (padd f g) m := fun i hi => by
  show f i + g i = 0
  rw [hf i hi, hg i hi]; grind
theorem dl_sub {q m : Nat} {f g : PS q} (hf : dl f m) (hg : dl g m) : dl (psub f g) m := fun i hi => by
  show f i - g i = 0
  rw [hf i hi, hg i hi]; grind
theorem dl_scl {q m : Nat} {f : PS q} (hf : dl f m) (c : Fin (q + 1)) : dl (pscl f c) m := fun i hi => by
  show f i * c = 0
  rw [hf i hi]; grind
theorem lp_sum {t : fcS} {q m : Nat} (hq : isP q) (hp : rp t q) (hm : (q + 1) ^ m < 2 ^ 30) {f g : PS q} {post : Int32 → fcS → Prop} (h : post (nI (nu q m (padd f g))) t) : ∀ d i, i + d = m → q_X3_sum_14 post (d + 1) (nI (nu q (m - i) (fun j => f (i + j)))) (nI (nu q (m - i) (fun j => g (i + j)))) (nI ((q + 1) ^ i)) (nI (nu q i (padd f g))) (nI i) t := by
  have hl := isP_lo hq
  have h18 := pow18 hl.1 hm
  have hex : ∀ i, i ≤ m → (nu q (m - i) (fun j => f (i + j)) = 0 ∨ nu q (m - i) (fun j => g (i + j)) = 0) → post (nI (nu q i (padd f g)) + (nI (nu q (m - i) (fun j => f (i + j))) + nI (nu q (m - i) (fun j => g (i + j)))) * nI ((q + 1) ^ i)) t := by
    intro i hi hz
    rw [nI_add, pk_mul, nI_add]
    have e : nu q m (padd f g) = nu q i (padd f g) + (nu q (m - i) (fun j => f (i + j)) + nu q (m - i) (fun j => g (i + j))) * (q + 1) ^ i := by
      rw [nu_part hi (padd f g), Nat.mul_comm]
      congr 2
      rcases hz with z | z
      · rw [z, Nat.zero_add]
        exact nu_cong (fun j hj => by
          have := nu_zero_inv z j hj
          show f (i + j) + g (i + j) = g (i + j)
          rw [show f (i + j) = 0 from this]; grind)
      · rw [z, Nat.add_zero]
        exact nu_cong (fun j hj => by
          have := nu_zero_inv z j hj
          show f (i + j) + g (i + j) = f (i + j)
          rw [show g (i + j) = 0 from this]; grind)
    rw [← e]; exact h
  intro d
  induction d with
  | zero =>
    intro i e
    unfold q_X3_sum_14
    have hA : nu q (m - i) (fun j => f (i + j)) = 0 := by rw [show m - i = 0 by omega]; rfl
    have := hex i (by omega) (Or.inl hA)
    exact ⟨fun _ => this, fun _ => ⟨fun _ => this, fun c => absurd (by rw [hA]; decide) c⟩⟩
  | succ d ih =>
    intro i e
    unfold q_X3_sum_14
    have bA : nu q (m - i) (fun j => f (i + j)) < 2 ^ 30 := nu_le hm (by omega) _
    have bB : nu q (m - i) (fun j => g (i + j)) < 2 ^ 30 := nu_le hm (by omega) _
    refine ⟨fun c => absurd ((nI_leI (a := 20) (by omega) (by omega)).mp c) (by omega), fun _ => ⟨fun c => hex i (by omega) (Or.inl (nI_le0 (by omega) c)), fun _ => ⟨fun c => hex i (by omega) (Or.inr (nI_le0 (by omega) c)), fun _ => ⟨rp_ne hp hq, rp_ne hp hq, rp_ne hp hq, fun x1 e1 => ⟨rp_ne hp hq, fun x2 e2 => ⟨rp_ne hp hq, fun x3 e3 x4 e4 x5 e5 => ?_⟩⟩⟩⟩⟩⟩
    rw [show fgi t 1 0 = nI (q + 1) from hp] at e1 e2 e3 e4
    have hk : m - i = (m - (i + 1)) + 1 := by omega
    rw [hk] at e1 e2 e3 bA bB
    have fa := nu_at (i := i) (k := m - (i + 1)) f
    have ga := nu_at (i := i) (k := m - (i + 1)) g
    rw [rem_nI (by omega) (by omega) (by omega), rem_nI (by omega) (by omega) (by omega), nI_add, rem_nI (by rw [fa.1, ga.1]; have := (f i).isLt; have := (g i).isLt; omega) (by omega) (by omega), pk_mul, nI_add, fa.1, ga.1] at e1
    rw [pk_div (by omega) (by omega) (by omega), fa.2] at e2
    rw [pk_div (by omega) (by omega) (by omega), ga.2] at e3
    rw [pk_mul, ← Nat.pow_succ] at e4
    have e1 : x1 = nI (nu q (i + 1) (padd f g)) := by rw [e1, nu_succ]; rfl
    have e5 : x5 = nI (i + 1) := by rw [e5, nI_1]
    rw [e1, e2, e3, e4, e5]
    exact ih (i + 1) (by omega)
theorem s_sum {t : fcS} {q m : Nat} (hq : isP q) (hp : rp t q) (hm : (q + 1) ^ m < 2 ^ 30) {f g : PS q} (hf : dl f m) (hg : dl g m) {post : Int32 → fcS → Prop} (h : post (Ni q (padd f g)) t) : q_X3_sum t (Ni q f) (Ni q g) post := by
  have hl := isP_lo hq
  rw [Ni_dl hl.1 hm (dl_add hf hg)] at h
  rw [Ni_dl hl.1 hm hf, Ni_dl hl.1 hm hg]
  have := lp_sum hq hp hm h m 0 (by omega)
  refine ⟨m + 1, ?_⟩
  rw [show m - 0 = m by omega, Nat.pow_zero] at this
  have e1 : nu q m (fun j => f (0 + j)) = nu q m f := nu_cong (fun j _ => by rw [Nat.zero_add])
  have e2 : nu q m (fun j => g (0 + j)) = nu q m g := nu_cong (fun j _ => by rw [Nat.zero_add])
  rw [e1, e2] at this
  exact this
theorem l_dif {t : fcS} {q m : Nat} (hq : isP q) (hp : rp t q) (hm : (q + 1) ^ m < 2 ^ 30) {f g : PS q} {post : Int32 → fcS → Prop} (h : post (nI (nu q m (psub f g))) t) : ∀ d i, i + d = m → q_X3_difference_14 post (d + 1) (nI (nu q (m - i) (fun j => f (i + j)))) (nI (nu q (m - i) (fun j => g (i + j)))) (nI ((q + 1) ^ i)) (nI (nu q i (psub f g))) (nI i) t := by
  have hl := isP_lo hq
  have h18 := pow18 hl.1 hm
  have hex : ∀ i, i ≤ m → nu q (m - i) (fun j => g (i + j)) = 0 → post (nI (nu q i (psub f g)) + (nI (nu q (m - i) (fun j => f (i + j)))) * nI ((q + 1) ^ i)) t := by
    intro i hi z
    rw [pk_mul, nI_add]
    have e : nu q m (psub f g) = nu q i (psub f g) + nu q (m - i) (fun j => f (i + j)) * (q + 1) ^ i := by
      rw [nu_part hi (psub f g), Nat.mul_comm]
      congr 2
      exact nu_cong (fun j hj => by
          have := nu_zero_inv z j hj
          show f (i + j) - g (i + j) = f (i + j)
          rw [show g (i + j) = 0 from this]; grind)
    rw [← e]; exact h
  intro d
  induction d with
  | zero =>
    intro i e
    unfold q_X3_difference_14
    have hA : nu q (m - i) (fun j => g (i + j)) = 0 := by rw [show m - i = 0 by omega]; rfl
    have := hex i (by omega) hA
    exact ⟨fun _ => this, fun _ => ⟨fun _ => this, fun c => absurd (by rw [hA]; decide) c⟩⟩
  | succ d ih =>
    intro i e
    unfold q_X3_difference_14
    have bA : nu q (m - i) (fun j => f (i + j)) < 2 ^ 30 := nu_le hm (by omega) _
    have bB : nu q (m - i) (fun j => g (i + j)) < 2 ^ 30 := nu_le hm (by omega) _
    refine ⟨fun c => absurd ((nI_leI (a := 20) (by omega) (by omega)).mp c) (by omega), fun _ => ⟨fun c => hex i (by omega) (nI_le0 (by omega) c), fun _ => ⟨rp_ne hp hq, rp_ne hp hq, rp_ne hp hq, fun x1 e1 => ⟨rp_ne hp hq, fun x2 e2 => ⟨rp_ne hp hq, fun x3 e3 x4 e4 x5 e5 => ?_⟩⟩⟩⟩⟩
    rw [show fgi t 1 0 = nI (q + 1) from hp] at e1 e2 e3 e4
    have hk : m - i = (m - (i + 1)) + 1 := by omega
    rw [hk] at e1 e2 e3 bA bB
    have fa := nu_at (i := i) (k := m - (i + 1)) f
    have ga := nu_at (i := i) (k := m - (i + 1)) g
    have lf := (f i).isLt
    have lg := (g i).isLt
    rw [rem_nI (by omega) (by omega) (by omega), rem_nI (by omega) (by omega) (by omega), fa.1, ga.1, nI_add, pk_sub (by omega), rem_nI (by omega) (by omega) (by omega), pk_mul, nI_add] at e1
    rw [pk_div (by omega) (by omega) (by omega), fa.2] at e2
    rw [pk_div (by omega) (by omega) (by omega), ga.2] at e3
    rw [pk_mul, ← Nat.pow_succ] at e4
    have e1 : x1 = nI (nu q (i + 1) (psub f g)) := by
      rw [e1, nu_succ]
      have : (psub f g i).val = ((f i).val + (q + 1) - (g i).val) % (q + 1) := by
        show (f i - g i).val = _
        rw [Fin.sub_def]
        show (q + 1 - (g i).val + (f i).val) % (q + 1) = _
        rw [show q + 1 - (g i).val + (f i).val = (f i).val + (q + 1) - (g i).val by omega]
      rw [this]
    have e5 : x5 = nI (i + 1) := by rw [e5, nI_1]
    rw [e1, e2, e3, e4, e5]
    exact ih (i + 1) (by omega)
theorem s_dif {t : fcS} {q m : Nat} (hq : isP q) (hp : rp t q) (hm : (q + 1) ^ m < 2 ^ 30) {f g : PS q} (hf : dl f m) (hg : dl g m) {post : Int32 → fcS → Prop} (h : post (Ni q (psub f g)) t) : q_X3_difference t (Ni q f) (Ni q g) post := by
  have hl := isP_lo hq
  rw [Ni_dl hl.1 hm (dl_sub hf hg)] at h
  rw [Ni_dl hl.1 hm hf, Ni_dl hl.1 hm hg]
  have := l_dif hq hp hm h m 0 (by omega)
  refine ⟨m + 1, ?_⟩
  rw [show m - 0 = m by omega, Nat.pow_zero] at this
  have e1 : nu q m (fun j => f (0 + j)) = nu q m f := nu_cong (fun j _ => by rw [Nat.zero_add])
  have e2 : nu q m (fun j => g (0 + j)) = nu q m g := nu_cong (fun j _ => by rw [Nat.zero_add])
  rw [e1, e2] at this
  exact this
theorem l_scl {t : fcS} {q m : Nat} (hq : isP q) (hp : rp t q) (hm : (q + 1) ^ m < 2 ^ 30) {f : PS q} (c : Fin (q + 1)) {post : Int32 → fcS → Prop} (h : post (nI (nu q m (pscl f c))) t) : ∀ d i, i + d = m → q_X3_scaled_19 post (d + 1) (nI c.val) (nI (nu q (m - i) (fun j => f (i + j)))) (nI ((q + 1) ^ i)) (nI (nu q i (pscl f c))) (nI i) t := by
  have hl := isP_lo hq
  have h18 := pow18 hl.1 hm
  have hex : ∀ i, i ≤ m → nu q (m - i) (fun j => f (i + j)) = 0 → post (nI (nu q i (pscl f c))) t := by
    intro i hi z
    have e : nu q m (pscl f c) = nu q i (pscl f c) := by
      rw [nu_part hi (pscl f c), nu_zero (f := fun j => pscl f c (i + j)) (fun j hj => by
          have := nu_zero_inv z j hj
          show f (i + j) * c = 0
          rw [show f (i + j) = 0 from this]; grind), Nat.mul_zero, Nat.add_zero]
    rw [← e]; exact h
  intro d
  induction d with
  | zero =>
    intro i e
    unfold q_X3_scaled_19
    have hA : nu q (m - i) (fun j => f (i + j)) = 0 := by rw [show m - i = 0 by omega]; rfl
    have := hex i (by omega) hA
    exact ⟨fun _ => this, fun _ => ⟨fun _ => this, fun c => absurd (by rw [hA]; decide) c⟩⟩
  | succ d ih =>
    intro i e
    unfold q_X3_scaled_19
    have bA : nu q (m - i) (fun j => f (i + j)) < 2 ^ 30 := nu_le hm (by omega) _
    refine ⟨fun c => absurd ((nI_leI (a := 20) (by omega) (by omega)).mp c) (by omega), fun _ => ⟨fun c => hex i (by omega) (nI_le0 (by omega) c), fun _ => ⟨rp_ne hp hq, rp_ne hp hq, fun x1 e1 => ⟨rp_ne hp hq, fun x2 e2 x3 e3 x4 e4 => ?_⟩⟩⟩⟩
    rw [show fgi t 1 0 = nI (q + 1) from hp] at e1 e2 e3
    have hk : m - i = (m - (i + 1)) + 1 := by omega
    rw [hk] at e1 e2 bA
    have fa := nu_at (i := i) (k := m - (i + 1)) f
    have lf := (f i).isLt
    have lc := c.isLt
    have lm : (f i).val * c.val ≤ 12 * 12 := Nat.mul_le_mul (by omega) (by omega)
    rw [rem_nI (by omega) (by omega) (by omega), fa.1, pk_mul, rem_nI (by omega) (by omega) (by omega), pk_mul, nI_add] at e1
    rw [pk_div (by omega) (by omega) (by omega), fa.2] at e2
    rw [pk_mul, ← Nat.pow_succ] at e3
    have e1 : x1 = nI (nu q (i + 1) (pscl f c)) := by rw [e1, nu_succ]; rfl
    have e4 : x4 = nI (i + 1) := by rw [e4, nI_1]
    rw [e1, e2, e3, e4]
    exact ih (i + 1) (by omega)
theorem s_scl {t : fcS} {q m : Nat} (hq : isP q) (hp : rp t q) (hm : (q + 1) ^ m < 2 ^ 30) {f : PS q} (hf : dl f m) (c : Fin (q + 1)) {post : Int32 → fcS → Prop} (h : post (Ni q (pscl f c)) t) : q_X3_scaled t (Ni q f) (nI c.val) post := by
  have hl := isP_lo hq
  rw [Ni_dl hl.1 hm (dl_scl hf c)] at h
  rw [Ni_dl hl.1 hm hf]
  have lc := c.isLt
  refine ⟨fun _ => ⟨m + 1, ?_⟩, fun hc => ⟨m + 1, ?_⟩⟩
  · have := l_scl hq hp hm c h m 0 (by omega)
    rw [show m - 0 = m by omega, Nat.pow_zero] at this
    have e1 : nu q m (fun j => f (0 + j)) = nu q m f := nu_cong (fun j _ => by rw [Nat.zero_add])
    rw [e1] at this
    exact this
  · have hc : c.val = 0 := by
      rcases Nat.eq_zero_or_pos c.val with z | z
      · exact z
      · exact absurd hc (nI_ne0 z (by omega))
    have hc : c = 0 := Fin.ext hc
    subst hc
    have e0 : (pscl f 0) = pscl (fun _ => (0 : Fin (q + 1))) 0 := by
      funext n; show f n * 0 = 0 * 0; grind
    rw [e0] at h
    have := l_scl hq hp hm (0 : Fin (q + 1)) h m 0 (by omega)
    rw [show m - 0 = m by omega, Nat.pow_zero, nu_zero (f := fun j => (0 : Fin (q + 1))) (fun _ _ => rfl)] at this
    exact this
