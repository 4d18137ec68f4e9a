/-! the class's polynomials: what each method answers, said of series -/
def isP (q : Nat) : Prop := q = 2 ∨ q = 4 ∨ q = 6 ∨ q = 10 ∨ q = 12
theorem isP_lo {q : Nat} (h : isP q) : 2 ≤ q ∧ q ≤ 12 := by unfold isP at h; omega
/-- the ring's p -/
def rp (t : fcS) (q : Nat) : Prop := fgi t 1 0 = nI (q + 1)
theorem rp_ne {t : fcS} {q : Nat} (h : rp t q) (hq : isP q) : ¬ (fgi t 1 0 : Int32) = 0 := by
  have := isP_lo hq
  rw [show fgi t 1 0 = nI (q + 1) from h]; exact nI_ne0 (by omega) (by omega)
theorem l_place {t : fcS} {q : Nat} (hp : rp t q) {post : Int32 → fcS → Prop} {k : Nat} (hk : (q + 1) ^ k < 2 ^ 30) (hk2 : k < 2 ^ 31) (h : post (nI ((q + 1) ^ k)) t) : ∀ d i, i + d = k → q_X3_place_4 post (d + 1) (nI k) (nI ((q + 1) ^ i)) (nI i) t
  | 0, i, e => by
    unfold q_X3_place_4
    have e : i = k := by omega
    subst e
    exact ⟨fun _ => h, fun c => absurd (nI_le (Nat.le_refl i) hk2) c⟩
  | d + 1, i, e => by
    unfold q_X3_place_4
    refine ⟨fun c => absurd ((nI_leI hk2 (by omega)).mp c) (by omega), fun _ x1 e1 x2 e2 => ?_⟩
    have e1 : x1 = nI ((q + 1) ^ (i + 1)) := by rw [e1, show fgi t 1 0 = nI (q + 1) from hp, pk_mul, Nat.pow_succ]
    have e2 : x2 = nI (i + 1) := by rw [e2, nI_1]
    rw [e1, e2]
    exact l_place hp hk hk2 h d (i + 1) (by omega)
theorem s_place {t : fcS} {q : Nat} (hp : rp t q) {post : Int32 → fcS → Prop} {k : Nat} (hk : (q + 1) ^ k < 2 ^ 30) (hk2 : k < 2 ^ 31) (h : post (nI ((q + 1) ^ k)) t) : q_X3_place t (nI k) post :=
  ⟨k + 1, l_place hp hk hk2 h k 0 (by omega)⟩
theorem l_coef {t : fcS} {q : Nat} (hq : isP q) (hp : rp t q) {post : Int32 → fcS → Prop} {a k : Nat} (ha : a < 2 ^ 31) (hk2 : k < 2 ^ 31) (h : post (nI (a / (q + 1) ^ k % (q + 1))) t) : ∀ d i, i + d = k → q_X3_coefficient_5 post (d + 1) (nI k) (nI (a / (q + 1) ^ i)) (nI i) t
  | 0, i, e => by
    have hl := isP_lo hq
    unfold q_X3_coefficient_5
    have e : i = k := by omega
    subst e
    refine ⟨fun _ => ⟨rp_ne hp hq, ?_⟩, fun c => absurd (nI_le (Nat.le_refl i) hk2) c⟩
    rw [show fgi t 1 0 = nI (q + 1) from hp, rem_nI (Nat.lt_of_le_of_lt (Nat.div_le_self _ _) ha) (by omega) (by omega)]
    exact h
  | d + 1, i, e => by
    have hl := isP_lo hq
    unfold q_X3_coefficient_5
    refine ⟨fun c => absurd ((nI_leI hk2 (by omega)).mp c) (by omega), fun _ => ⟨rp_ne hp hq, fun x1 e1 x2 e2 => ?_⟩⟩
    have e1 : x1 = nI (a / (q + 1) ^ (i + 1)) := by
      rw [e1, show fgi t 1 0 = nI (q + 1) from hp, pk_div (Nat.lt_of_le_of_lt (Nat.div_le_self _ _) ha) (by omega) (by omega), Nat.div_div_eq_div_mul, Nat.pow_succ]
    have e2 : x2 = nI (i + 1) := by rw [e2, nI_1]
    rw [e1, e2]
    exact l_coef hq hp ha hk2 h d (i + 1) (by omega)
theorem s_coef {t : fcS} {q : Nat} (hq : isP q) (hp : rp t q) {post : Int32 → fcS → Prop} {a k : Nat} (ha : a < 2 ^ 31) (hk2 : k < 2 ^ 31) (h : post (nI (a / (q + 1) ^ k % (q + 1))) t) : q_X3_coefficient t (nI a) (nI k) post := by
  refine ⟨k + 1, ?_⟩
  have := l_coef hq hp ha hk2 h k 0 (by omega)
  rw [Nat.pow_zero, Nat.div_one] at this
  exact this
theorem Ni_lt {q m : Nat} (hq : isP q) (hm : (q + 1) ^ m < 2 ^ 30) {f : PS q} (hf : dl f m) : ∃ a, a < (q + 1) ^ m ∧ a < 2 ^ 30 ∧ Ni q f = nI a ∧ pn q a = f := by
  refine ⟨nu q m f, nu_lt m f, Nat.lt_trans (nu_lt m f) hm, Ni_dl (isP_lo hq).1 hm hf, pn_nu hf⟩
theorem s_coefS {t : fcS} {q m : Nat} (hq : isP q) (hp : rp t q) (hm : (q + 1) ^ m < 2 ^ 30) {f : PS q} (hf : dl f m) {post : Int32 → fcS → Prop} {k : Nat} (hk2 : k < 2 ^ 31) (h : post (nI (f k).val) t) : q_X3_coefficient t (Ni q f) (nI k) post := by
  obtain ⟨a, h1, h2, h3, h4⟩ := Ni_lt hq hm hf
  rw [h3]
  refine s_coef hq hp (by omega) hk2 ?_
  rw [← pn_val, h4]; exact h
theorem pn_ne {q a n : Nat} (h : pn q a n ≠ 0) : (q + 1) ^ n ≤ a := by
  rcases Nat.lt_or_ge a ((q + 1) ^ n) with c | c
  · exact absurd (pn_dl c n (Nat.le_refl n)) h
  · exact c
theorem l_deg {t : fcS} {q : Nat} (hq : isP q) (hp : rp t q) {post : Int32 → fcS → Prop} {a n : Nat} (ha : a < 2 ^ 30) (h1 : a < (q + 1) ^ (n + 1)) (h0 : n = 0 ∨ (q + 1) ^ n ≤ a) (hn : n ≤ 18) (h : post (nI n) t) : ∀ d i, i + d = n → q_X3_degree_9 post (d + 1) (nI i) (nI (a / (q + 1) ^ (i + 1))) t
  | 0, i, e => by
    unfold q_X3_degree_9
    have e : i = n := by omega
    subst e
    rw [Nat.div_eq_of_lt h1]
    exact ⟨fun _ => h, fun c => absurd (by decide) c⟩
  | d + 1, i, e => by
    have hl := isP_lo hq
    unfold q_X3_degree_9
    have hpos : 0 < a / (q + 1) ^ (i + 1) := by
      have h3 : (q + 1) ^ (i + 1) ≤ (q + 1) ^ n := Nat.pow_le_pow_right (by omega) (by omega)
      exact Nat.div_pos (by rcases h0 with z | z <;> omega) (Nat.pow_pos (by omega))
    have hlt : a / (q + 1) ^ (i + 1) < 2 ^ 31 := Nat.lt_of_le_of_lt (Nat.div_le_self _ _) (by omega)
    refine ⟨fun c => absurd c (nI_nle hpos hlt), fun _ => ⟨fun c => ?_, fun _ x2 e2 => ⟨rp_ne hp hq, fun x3 e3 => ?_⟩⟩⟩
    · exact absurd ((nI_leI (a := 20) (by omega) (by omega)).mp c) (by omega)
    · have e2 : x2 = nI (i + 1) := by rw [e2, nI_1]
      have e3 : x3 = nI (a / (q + 1) ^ (i + 1 + 1)) := by
        rw [e3, show fgi t 1 0 = nI (q + 1) from hp, pk_div hlt (by omega) (by omega), Nat.div_div_eq_div_mul, ← Nat.pow_succ]
      rw [e2, e3]
      exact l_deg hq hp ha h1 h0 hn h d (i + 1) (by omega)
theorem s_deg {t : fcS} {q : Nat} (hq : isP q) (hp : rp t q) {post : Int32 → fcS → Prop} {a n : Nat} (ha : a < 2 ^ 30) (h1 : a < (q + 1) ^ (n + 1)) (h0 : n = 0 ∨ (q + 1) ^ n ≤ a) (hn : n ≤ 18) (h : post (nI n) t) : q_X3_degree t (nI a) post := by
  have hl := isP_lo hq
  refine ⟨rp_ne hp hq, fun x1 e1 => ⟨n + 1, ?_⟩⟩
  have := l_deg hq hp ha h1 h0 hn h n 0 (by omega)
  rw [Nat.zero_add, Nat.pow_one] at this
  rw [e1, show fgi t 1 0 = nI (q + 1) from hp, pk_div (by omega) (by omega) (by omega)]
  exact this
/-- n is the degree (0 of 0, too) -/
def hd {q : Nat} (f : PS q) (n : Nat) : Prop := dl f (n + 1) ∧ (n = 0 ∨ f n ≠ 0)
theorem hd_lt {q m n : Nat} {f : PS q} (h : hd f n) (hf : dl f m) : n = 0 ∨ n < m := by
  rcases h.2 with z | z
  · exact Or.inl z
  · rcases Nat.lt_or_ge n m with c | c
    · exact Or.inr c
    · exact absurd (hf n c) z
theorem Ni_hd {q m n : Nat} (hq : isP q) (hm : (q + 1) ^ m < 2 ^ 30) {f : PS q} (hf : dl f m) (h : hd f n) : ∃ a, a < 2 ^ 30 ∧ Ni q f = nI a ∧ pn q a = f ∧ a < (q + 1) ^ (n + 1) ∧ (n = 0 ∨ (q + 1) ^ n ≤ a) ∧ n ≤ 18 := by
  obtain ⟨a, h1, h2, h3, h4⟩ := Ni_lt hq hm hf
  refine ⟨a, h2, h3, h4, ?_, ?_, ?_⟩
  · rcases Nat.lt_or_ge a ((q + 1) ^ (n + 1)) with c | c
    · exact c
    · exfalso
      have e1 := nu_pn h1
      rw [h4] at e1
      rcases hd_lt h hf with z | z
      · subst z
        rcases Nat.lt_or_ge m 1 with w | w
        · have : m = 0 := by omega
          subst this
          have h1 : a < 1 := h1
          rw [Nat.zero_add, Nat.pow_one] at c
          omega
        · rw [nu_dl h.1 w] at e1
          have := nu_lt (0 + 1) f
          omega
      · rw [nu_dl h.1 z] at e1
        have := nu_lt (n + 1) f
        omega
  · rcases h.2 with z | z
    · exact Or.inl z
    · exact Or.inr (pn_ne (by rw [h4]; exact z))
  · have := pow18 (isP_lo hq).1 hm
    rcases hd_lt h hf with z | z <;> omega
theorem s_degS {t : fcS} {q m n : Nat} (hq : isP q) (hp : rp t q) (hm : (q + 1) ^ m < 2 ^ 30) {f : PS q} (hf : dl f m) (hn : hd f n) {post : Int32 → fcS → Prop} (h : post (nI n) t) : q_X3_degree t (Ni q f) post := by
  obtain ⟨a, h1, h2, h3, h4, h5, h6⟩ := Ni_hd hq hm hf hn
  rw [h2]
  exact s_deg hq hp h1 h4 h5 h6 h
theorem l_lead {t : fcS} {q : Nat} (hq : isP q) (hp : rp t q) {post : Int32 → fcS → Prop} {a n : Nat} (ha : a < 2 ^ 30) (h1 : a < (q + 1) ^ (n + 1)) (h0 : n = 0 ∨ (q + 1) ^ n ≤ a) (hn : n ≤ 18) (h : post (nI (a / (q + 1) ^ n)) t) : ∀ d i, i + d = n → q_X3_lead_4 post (d + 1) (nI (a / (q + 1) ^ i)) (nI i) t
  | 0, i, e => by
    have hl := isP_lo hq
    unfold q_X3_lead_4
    have e : i = n := by omega
    subst e
    refine ⟨fun _ => h, fun _ => ⟨fun _ => h, fun c => absurd ?_ c⟩⟩
    rw [show fgi t 1 0 = nI (q + 1) from hp]
    refine nI_lt ?_ (by omega)
    rw [Nat.div_lt_iff_lt_mul (Nat.pow_pos (by omega)), Nat.mul_comm, ← Nat.pow_succ]; exact h1
  | d + 1, i, e => by
    have hl := isP_lo hq
    unfold q_X3_lead_4
    have hlt : a / (q + 1) ^ i < 2 ^ 31 := Nat.lt_of_le_of_lt (Nat.div_le_self _ _) (by omega)
    have hge : q + 1 ≤ a / (q + 1) ^ i := by
      rw [Nat.le_div_iff_mul_le (Nat.pow_pos (by omega)), Nat.mul_comm, ← Nat.pow_succ]
      show (q + 1) ^ (i + 1) ≤ a
      have h3 : (q + 1) ^ (i + 1) ≤ (q + 1) ^ n := Nat.pow_le_pow_right (by omega) (by omega)
      rcases h0 with z | z <;> omega
    refine ⟨fun c => absurd ((nI_leI (a := 20) (by omega) (by omega)).mp c) (by omega), fun _ => ⟨fun c => ?_, fun _ => ⟨rp_ne hp hq, fun x1 e1 x2 e2 => ?_⟩⟩⟩
    · rw [show fgi t 1 0 = nI (q + 1) from hp] at c
      exact absurd c (nI_nlt hge hlt)
    · have e1 : x1 = nI (a / (q + 1) ^ (i + 1)) := by
        rw [e1, show fgi t 1 0 = nI (q + 1) from hp, pk_div hlt (by omega) (by omega), Nat.div_div_eq_div_mul, ← Nat.pow_succ]
      have e2 : x2 = nI (i + 1) := by rw [e2, nI_1]
      rw [e1, e2]
      exact l_lead hq hp ha h1 h0 hn h d (i + 1) (by omega)
theorem s_leadS {t : fcS} {q m n : Nat} (hq : isP q) (hp : rp t q) (hm : (q + 1) ^ m < 2 ^ 30) {f : PS q} (hf : dl f m) (hn : hd f n) {post : Int32 → fcS → Prop} (h : post (nI (f n).val) t) : q_X3_lead t (Ni q f) post := by
  have hl := isP_lo hq
  obtain ⟨a, h1, h2, h3, h4, h5, h6⟩ := Ni_hd hq hm hf hn
  rw [h2]
  have e : (f n).val = a / (q + 1) ^ n := by
    rw [← h3, pn_val]
    exact Nat.mod_eq_of_lt (by rw [Nat.div_lt_iff_lt_mul (Nat.pow_pos (by omega)), Nat.mul_comm, ← Nat.pow_succ]; exact h4)
  rw [e] at h
  have := l_lead hq hp h1 h4 h5 h6 h n 0 (by omega)
  rw [Nat.pow_zero, Nat.div_one] at this
  exact ⟨n + 1, this⟩
