theorem lt_m1 {a b : Nat} (ha : a < 2 ^ 30) (hb : b < 2 ^ 30) : (nI a + (-1) < nI b) ↔ a ≤ b := by
  rw [Int32.lt_iff_toInt_lt]
  have e1 : (nI a + (-1)).toInt = (a : Int) - 1 := by
    rw [fb_addI, nI_toInt (by omega)]
    · rfl
    · rw [nI_toInt (by omega)]; show -2147483648 ≤ (a : Int) + -1; omega
    · rw [nI_toInt (by omega)]; show (a : Int) + -1 < 2147483648; omega
  rw [e1, nI_toInt (by omega)]; omega
theorem m_deg2 {q : Nat} (hq : isP q) {t : fcS} {a : Nat} (ha : a < 40) {f : PS q} (hr : rwI t a f) {post : Int32 → fcS → Prop} (h : ∀ k, k ≤ 16 → dl f k → (k = 0 ∨ f (k - 1) ≠ 0) → post (nI k + (-1)) t) : q_X5_degree t (nI a) post := by
  refine m_deg hq ha hr (fun z => ?_) (fun n h1 h2 h3 => ?_)
  · exact h 0 (by omega) (by rw [z]; exact fun _ _ => rfl) (Or.inl rfl)
  · have := h (n + 1) (by omega) h2 (Or.inr (by rw [show n + 1 - 1 = n by omega]; exact h3))
    rw [pk_m1] at this
    exact this
theorem l_minv {q : Nat} (hq : isP q) {t : fcS} (hp : mp t q) {post : Int32 → fcS → Prop} {c k : Nat} (hc : c < q + 1) (hk : k < q + 1) (h1 : c * k % (q + 1) = 1) (hu : ∀ j, j < k → c * j % (q + 1) ≠ 1) (h : post (nI k) t) : ∀ d i, i + d = k → q_X5_inverse_2 post (d + 1) (nI c) (nI i) t := by
  have hl := isP_lo hq
  have lm : ∀ i, i ≤ k → i * c < 2 ^ 31 := fun i hi => Nat.lt_of_le_of_lt (Nat.mul_le_mul (show i ≤ 12 by omega) (show c ≤ 12 by omega)) (by decide)
  intro d
  induction d with
  | zero =>
    intro i e
    have e : i = k := by omega
    subst e
    unfold q_X5_inverse_2
    refine ⟨mp_ne hp hq, fun _ => h, fun c9 => absurd ?_ c9⟩
    rw [show fgi t 53 1 = nI (q + 1) from hp, pk_mul, rem_nI (lm i (Nat.le_refl i)) (by omega) (by omega), Nat.mul_comm, h1]; rfl
  | succ d ih =>
    intro i e
    unfold q_X5_inverse_2
    refine ⟨mp_ne hp hq, fun c9 => ?_, fun _ x1 e1 => ?_⟩
    · rw [show fgi t 53 1 = nI (q + 1) from hp, pk_mul, rem_nI (lm i (by omega)) (by omega) (by omega), Nat.mul_comm] at c9
      have hm := Nat.mod_lt (c * i) (show 0 < q + 1 by omega)
      exact absurd ((nI_eq (by omega) (by omega)).mp (show nI (c * i % (q + 1)) = nI 1 from c9)) (hu i (by omega))
    · rw [e1, nI_1]; exact ih (i + 1) (by omega)
theorem m_inv {q : Nat} (hq : isP q) {t : fcS} (hp : mp t q) {post : Int32 → fcS → Prop} {c : Fin (q + 1)} (hc : c ≠ 0) (h : post (nI (fiv q c).val) t) : q_X5_inverse t (nI c.val) post := by
  have hl := isP_lo hq
  obtain ⟨h1, h2⟩ := (fiv_ok hq c).2 hc
  have hk : 1 ≤ (fiv q c).val := by
    rcases Nat.eq_zero_or_pos (fiv q c).val with z | z
    · rw [z, Nat.mul_zero, Nat.zero_mod] at h1; omega
    · exact z
  exact ⟨_, l_minv hq hp c.isLt (fiv q c).isLt h1 h2 h ((fiv q c).val - 1) 1 (by omega)⟩
/-! the product of two rows -/
def pin {q : Nat} (f g : PS q) (i j : Nat) : PS q := fun n => if i ≤ n ∧ n < i + j then g (n - i) * f i else 0
theorem pin_end {q : Nat} (f g : PS q) {i k : Nat} (hg : dl g k) : pin f g i k = psh i (pscl g (f i)) := by
  funext n
  show (if i ≤ n ∧ n < i + k then g (n - i) * f i else 0) = if n < i then 0 else g (n - i) * f i
  rcases Nat.lt_or_ge n i with w | w
  · rw [if_neg (by omega), if_pos w]
  · rw [if_neg (show ¬ n < i by omega)]
    split
    · rfl
    · rw [hg (n - i) (by omega)]; grind
theorem rwI_set {q : Nat} {t : fcS} {a i : Nat} {f g : PS q} (hr : rwI t a f) (hi : i < 16) (hg : dl g 16) (hs : ∀ j, j ≠ i → g j = f j) : rwI (fsa t 60 (16 * a + i) (nI (g i).val)) a g := by
  refine ⟨hg, fun j hj => ?_⟩
  rw [ga_fsa]
  by_cases e : j = i
  · subst e; rw [if_pos rfl]
  · rw [if_neg (by omega), hr.2 j hj, hs j e]
theorem l_mmul {q : Nat} (hq : isP q) {t : fcS} (hp : mp t q) {r a b kx ky : Nat} (hr : r < 40) (ha : a < 40) (hb : b < 40) (hra : r ≠ a) (hrb : r ≠ b) {f g : PS q} (hf : rwI t a f) (hg : rwI t b g) (hx : kx ≤ 16) (hy : ky ≤ 16) (hxy : kx + ky ≤ 17) (hfx : dl f kx) (hgy : dl g ky) {post : fcS → Prop} (h : ∀ t2, eqL t t2 [r] → rwI t2 r (pl_mul f g) → post t2) : ∀ d i (t1 : fcS), i + d = kx → eqL t t1 [r] → rwI t1 r (ppr g f i) → q_X5_multiply_22 post (d + 1) (nI r) (nI a) (nI b) (nI kx + (-1)) (nI ky + (-1)) (nI i) t1 := by
  have hl := isP_lo hq
  intro d
  induction d with
  | zero =>
    intro i t1 e h1 h2
    unfold q_X5_multiply_22
    have e : i = kx := by omega
    subst e
    refine ⟨fun _ => h t1 h1 ?_, fun c => absurd ((lt_m1 (by omega) (by omega)).mpr (Nat.le_refl i)) c⟩
    rw [pl_mul_comm, ← ppr_mul g f hfx]; exact h2
  | succ d ih =>
    intro i t1 e h1 h2
    unfold q_X5_multiply_22
    refine ⟨fun c => absurd ((lt_m1 (by omega) (by omega)).mp c) (by omega), fun _ => ⟨ky + 1, ?_⟩⟩
    -- the inner loop
    have inner : ∀ c j (t2 : fcS), j + c = ky → eqL t t2 [r] → rwI t2 r (padd (ppr g f i) (pin f g i j)) → q_X5_multiply_32 post (fun v1_ v2_ v3_ v4_ v5_ v6_ t_ => q_X5_multiply_22 post (d + 1) v1_ v2_ v3_ v4_ v5_ v6_ t_) (c + 1) (nI r) (nI a) (nI b) (nI kx + (-1)) (nI ky + (-1)) (nI i) (nI j) t2 := by
      intro c
      induction c with
      | zero =>
        intro j t2 ej k1 k2
        unfold q_X5_multiply_32
        have ej : j = ky := by omega
        subst ej
        refine ⟨fun _ x6 e6 => ?_, fun c => absurd ((lt_m1 (by omega) (by omega)).mpr (Nat.le_refl j)) c⟩
        rw [e6, nI_1]
        refine ih (i + 1) t2 (by omega) k1 ?_
        rw [pin_end f g hgy] at k2
        exact k2
      | succ c ihc =>
        intro j t2 ej k1 k2
        unfold q_X5_multiply_32
        refine ⟨fun c => absurd ((lt_m1 (by omega) (by omega)).mp c) (by omega), fun _ => ?_⟩
        obtain ⟨x1, x2, x3⟩ := ix (i := i + j) hr (by omega)
        obtain ⟨y1, y2, y3⟩ := ix (i := i) ha (by omega)
        obtain ⟨z1, z2, z3⟩ := ix (i := j) hb (by omega)
        have x1' : (16 : Int32) * nI r + nI i + nI j = nI (16 * r + (i + j)) := by
          rw [show (16 : Int32) = nI 16 from rfl, pk_mul, nI_add, nI_add, Nat.add_assoc]
        rw [x1', y1, z1, x3, y3, z3]
        have hv : fga t2 60 (16 * a + i) = nI (f i).val := (eqL_row k1 (by simp; exact fun z => hra z.symm) hf).2 i (by omega)
        have hw : fga t2 60 (16 * b + j) = nI (g j).val := (eqL_row k1 (by simp; exact fun z => hrb z.symm) hg).2 j (by omega)
        have hp2 : fgi t2 53 1 = nI (q + 1) := eqL_mp k1 hp
        rw [hv, hw, k2.2 (i + j) (by omega), hp2]
        have l1 := (f i).isLt
        have l2 := (g j).isLt
        have l3 := (padd (ppr g f i) (pin f g i j) (i + j)).isLt
        have l4 : (f i).val * (g j).val ≤ 12 * 12 := Nat.mul_le_mul (by omega) (by omega)
        refine ⟨x2, y2, z2, nI_ne0 (by omega) (by omega), x2, fun t3 e3 x8 e8 => ?_⟩
        rw [pk_mul, nI_add, rem_nI (by omega) (by omega) (by omega)] at e3
        rw [e8, nI_1]
        have hpin : pin f g i j (i + j) = 0 := by
          show (if i ≤ i + j ∧ i + j < i + j then _ else (0 : Fin (q + 1))) = 0
          rw [if_neg (by omega)]
        have hpin2 : pin f g i (j + 1) (i + j) = g j * f i := by
          show (if i ≤ i + j ∧ i + j < i + (j + 1) then g (i + j - i) * f i else (0 : Fin (q + 1))) = g j * f i
          rw [if_pos (by omega), show i + j - i = j by omega]
        have hval : ((padd (ppr g f i) (pin f g i j) (i + j)).val + (f i).val * (g j).val) % (q + 1) = (padd (ppr g f i) (pin f g i (j + 1)) (i + j)).val := by
          have : padd (ppr g f i) (pin f g i (j + 1)) (i + j) = padd (ppr g f i) (pin f g i j) (i + j) + f i * g j := by
            show ppr g f i (i + j) + pin f g i (j + 1) (i + j) = ppr g f i (i + j) + pin f g i j (i + j) + f i * g j
            rw [hpin, hpin2]; grind
          rw [this, Fin.val_add, Fin.val_mul, Nat.add_mod_mod]
        rw [hval] at e3
        have hdl : dl (padd (ppr g f i) (pin f g i (j + 1))) 16 := by
          refine dl_add (dl_mono (ppr_dl hgy f i) (by omega)) (fun n hn => ?_)
          show (if i ≤ n ∧ n < i + (j + 1) then g (n - i) * f i else (0 : Fin (q + 1))) = 0
          rw [if_neg (by omega)]
        refine ihc (j + 1) t3 (by omega) (by rw [e3]; exact eqL_fsa k1 (by simp) (by omega) _) ?_
        rw [e3]
        refine rwI_set k2 (by omega) hdl (fun n hn => ?_)
        show ppr g f i n + pin f g i (j + 1) n = ppr g f i n + pin f g i j n
        congr 1
        show (if i ≤ n ∧ n < i + (j + 1) then g (n - i) * f i else (0 : Fin (q + 1))) = if i ≤ n ∧ n < i + j then g (n - i) * f i else 0
        by_cases w : i ≤ n ∧ n < i + j
        · rw [if_pos w, if_pos (by omega)]
        · rw [if_neg w, if_neg (by omega)]
    refine inner ky 0 t1 (by omega) h1 ?_
    have : padd (ppr g f i) (pin f g i 0) = ppr g f i := by
      funext n
      show ppr g f i n + (if i ≤ n ∧ n < i + 0 then g (n - i) * f i else (0 : Fin (q + 1))) = ppr g f i n
      rw [if_neg (by omega)]; grind
    rw [this]; exact h2
theorem m_mul {q : Nat} (hq : isP q) {t : fcS} (hp : mp t q) {r a b m n : Nat} (hr : r < 40) (ha : a < 40) (hb : b < 40) (hra : r ≠ a) (hrb : r ≠ b) {f g : PS q} (hf : rwI t a f) (hg : rwI t b g) (hfm : dl f m) (hgn : dl g n) (hmn : m + n ≤ 17) {post : fcS → Prop} (h : ∀ t2, eqL t t2 [r] → rwI t2 r (pl_mul f g) → post t2) : q_X5_multiply t (nI r) (nI a) (nI b) post := by
  unfold q_X5_multiply
  refine m_clear (q := q) hr (fun t1 h1 h2 => ?_)
  have hf1 : rwI t1 a f := eqL_row h1 (by simp; exact fun z => hra z.symm) hf
  have hg1 : rwI t1 b g := eqL_row h1 (by simp; exact fun z => hrb z.symm) hg
  refine m_deg2 hq ha hf1 (fun kx x1 x2 x3 => ?_)
  refine m_deg2 hq hb hg1 (fun ky y1 y2 y3 => ?_)
  have hkx : kx ≤ m := by
    rcases x3 with z | z
    · omega
    · rcases Nat.lt_or_ge (kx - 1) m with w | w
      · omega
      · exact absurd (hfm _ w) z
  have hky : ky ≤ n := by
    rcases y3 with z | z
    · omega
    · rcases Nat.lt_or_ge (ky - 1) n with w | w
      · omega
      · exact absurd (hgn _ w) z
  refine ⟨kx + 1, ?_⟩
  exact l_mmul hq (eqL_mp h1 hp) hr ha hb hra hrb hf1 hg1 x1 y1 (by omega) x2 y2 (fun t2 k1 k2 => h t2 (eqL_mono (eqL_tr h1 k1) (fun z hz => by simpa using hz)) k2) kx 0 t1 (by omega) (eqL_rf t1 _) h2
