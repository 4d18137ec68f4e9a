/-! THE SIGNS, the reference's row of them -/
theorem RB_eqU {t t2 : fcS} {q : Nat} (h : RB t q) (e : eqU t t2) : RB t2 q := RB_U h e
theorem m_sg2 {t : fcS} {q n : Nat} (hB : RB t q) (h : fl q n) {post : fcS → Prop} (hh : ∀ t2, eqU t t2 → fgi t2 53 15 = fgi t 53 15 → (∀ a, a < (q + 1) ^ n → fga t2 61 a = sg q n a) → post t2) : ∀ d a (t1 : fcS), a + d = (q + 1) ^ n → 1 ≤ a → eqU t t1 → fgi t1 53 15 = fgi t 53 15 → (∀ x, x < (q + 1) ^ n → fga t1 61 x = cit (∃ b, 1 ≤ b ∧ b < a ∧ ml q n b b = x) 1 (-1)) → q_X5_needSigns_41 post (d + 1) (nI n) (nI a) t1 := by
  have hs := fl_sz h
  have hn5 : n < 6 := by obtain ⟨-, f1, f2⟩ := nfd_ok h.1; have := h.2; omega
  intro d
  induction d with
  | zero =>
    intro a t1 e a1 e1 e15 hx
    have hB1 := RB_U hB e1
    unfold q_X5_needSigns_41
    rw [nI_clamp (by omega), (hB1.2.2 n h.2.1 h.2.2).1]
    refine ⟨vp_in_nI hn5 (by omega), fun _ => ⟨vp_in_nI (n := 0) (by omega) (by omega), fun t2 e2 => ?_⟩, fun c => absurd (nI_le (by omega) (by omega)) c⟩
    subst e2
    refine hh _ (eqU_tr e1 (eqU_fsa t1 (by omega) _ _)) e15 (fun x hx1 => ?_)
    rw [ga_fsaG, show Int32.toNatClampNeg 0 = 0 from rfl]
    by_cases x0 : x = 0
    · rw [if_pos x0, x0]; rfl
    · rw [if_neg (fun z => x0 z), hx x hx1]
      unfold sg
      rw [if_neg x0]
      have hiff : (∃ b, 1 ≤ b ∧ b < a ∧ ml q n b b = x) ↔ ∃ b, b < (q + 1) ^ n ∧ ml q n b b = x := by
        constructor
        · rintro ⟨b, -, h2, h3⟩; exact ⟨b, by omega, h3⟩
        · rintro ⟨b, h2, h3⟩
          refine ⟨b, ?_, by omega, h3⟩
          rcases Nat.eq_zero_or_pos b with w | w
          · rw [w, ml_zero h] at h3; exact absurd h3.symm x0
          · exact w
      by_cases c : ∃ b, b < (q + 1) ^ n ∧ ml q n b b = x
      · rw [cit_pos c, cit_pos (hiff.mpr c)]
      · rw [cit_neg c, cit_neg (fun z => c (hiff.mp z))]
  | succ d ih =>
    intro a t1 e a1 e1 e15 hx
    have hB1 := RB_U hB e1
    unfold q_X5_needSigns_41
    rw [nI_clamp (by omega), (hB1.2.2 n h.2.1 h.2.2).1]
    refine ⟨vp_in_nI hn5 (by omega), fun c => absurd ((nI_leI (by omega) (by omega)).mp c) (by omega), fun _ => ?_⟩
    have ha : a < (q + 1) ^ n := by omega
    refine m_prod hB1 h ha ha (fun t2 e2 => ?_)
    have hlt := ml_lt q n a a
    refine ⟨vp_in_nI (by omega) (by omega), fun t5 e5 x6 e6 => ?_⟩
    rw [nI_clamp (by omega)] at e5
    subst e5
    rw [e6, nI_1]
    refine ih (a + 1) _ (by omega) (by omega) (eqU_tr e1 (eqU_tr (eqU_W e2) (eqU_fsa t2 (by omega) _ _))) ?_ (fun x hx1 => ?_)
    · show fgi t2 53 15 = _
      rw [eqW_gi e2]; exact e15
    · rw [ga_fsaG, e2.2.2 61 (by omega), hx x hx1]
      by_cases c : x = ml q n a a
      · rw [if_pos c, cit_pos ⟨a, a1, by omega, c.symm⟩]
      · rw [if_neg c]
        have hiff : (∃ b, 1 ≤ b ∧ b < a ∧ ml q n b b = x) ↔ ∃ b, 1 ≤ b ∧ b < a + 1 ∧ ml q n b b = x := by
          constructor
          · rintro ⟨b, h1, h2, h3⟩; exact ⟨b, h1, by omega, h3⟩
          · rintro ⟨b, h1, h2, h3⟩
            refine ⟨b, h1, ?_, h3⟩
            rcases Nat.lt_or_ge b a with w | w
            · exact w
            · have : b = a := by omega
              subst this
              exact absurd h3.symm c
        by_cases c2 : ∃ b, 1 ≤ b ∧ b < a ∧ ml q n b b = x
        · rw [cit_pos c2, cit_pos (hiff.mp c2)]
        · rw [cit_neg c2, cit_neg (fun z => c2 (hiff.mpr z))]
theorem m_sg1 {t : fcS} {q n : Nat} (hB : RB t q) (h : fl q n) {post : fcS → Prop} (hh : ∀ t2, eqU t t2 → fgi t2 53 15 = fgi t 53 15 → (∀ a, a < (q + 1) ^ n → fga t2 61 a = sg q n a) → post t2) : ∀ d a (t1 : fcS), a + d = (q + 1) ^ n → eqU t t1 → fgi t1 53 15 = fgi t 53 15 → (∀ x, x < a → fga t1 61 x = -1) → q_X5_needSigns_16 post (d + 1) (nI n) (nI a) t1 := by
  have hs := fl_sz h
  have hn5 : n < 6 := by obtain ⟨-, f1, f2⟩ := nfd_ok h.1; have := h.2; omega
  intro d
  induction d with
  | zero =>
    intro a t1 e e1 e15 hx
    have hB1 := RB_U hB e1
    unfold q_X5_needSigns_16
    rw [nI_clamp (by omega), (hB1.2.2 n h.2.1 h.2.2).1]
    refine ⟨vp_in_nI hn5 (by omega), fun _ => ⟨(q + 1) ^ n - 1 + 1, ?_⟩, fun c => absurd (nI_le (by omega) (by omega)) c⟩
    refine m_sg2 hB h hh ((q + 1) ^ n - 1) 1 t1 (by omega) (Nat.le_refl 1) e1 e15 (fun x hx1 => ?_)
    rw [hx x (by omega), cit_neg]
    rintro ⟨b, h1, h2, -⟩
    omega
  | succ d ih =>
    intro a t1 e e1 e15 hx
    have hB1 := RB_U hB e1
    unfold q_X5_needSigns_16
    rw [nI_clamp (by omega), (hB1.2.2 n h.2.1 h.2.2).1]
    refine ⟨vp_in_nI hn5 (by omega), fun c => absurd ((nI_leI (by omega) (by omega)).mp c) (by omega), fun _ => ⟨vp_in_nI (by omega) (by omega), fun t7 e7 x8 e8 => ?_⟩⟩
    rw [nI_clamp (by omega)] at e7
    subst e7
    rw [e8, nI_1]
    refine ih (a + 1) _ (by omega) (eqU_tr e1 (eqU_fsa t1 (by omega) _ _)) e15 (fun x hx1 => ?_)
    rw [ga_fsaG]
    by_cases c : x = a
    · rw [if_pos c]
    · rw [if_neg c]; exact hx x (by omega)
theorem m_signs {t : fcS} {q n : Nat} (hB : RB t q) (hS : RS t q) (h : fl q n) {post : fcS → Prop} (hh : ∀ t2, eqU t t2 → RS t2 q → (∀ a, a < (q + 1) ^ n → fga t2 61 a = sg q n a) → post t2) : q_X5_needSigns t (nI n) post := by
  have hs := fl_sz h
  have hn5 : n < 6 := by obtain ⟨-, f1, f2⟩ := nfd_ok h.1; have := h.2; omega
  unfold q_X5_needSigns
  refine ⟨fun _ t1 e1 => ?_, fun c => ?_⟩
  · subst e1
    refine ⟨(q + 1) ^ n + 1, ?_⟩
    have e15 : fgi (fsi t 53 15 (nI n)) 53 15 = nI n := gi_same t 53 15 _
    refine m_sg1 (RB_U hB (eqU_fsi t (Or.inr rfl) _)) h (fun t2 e2 e3 hx => ?_) ((q + 1) ^ n) 0 _ (by omega) (eqU_rf _) rfl (fun x hx => by omega)
    refine hh t2 (eqU_tr (eqU_fsi t (Or.inr rfl) _) e2) (Or.inr ⟨n, h, e3.trans e15, hx⟩) hx
  · refine hh t (eqU_rf t) hS ?_
    rcases hS with z | ⟨m, hm, em, hx⟩
    · rw [z] at c
      exact absurd c.symm (nI_ne0 (by have := h.2; omega) (by omega))
    · rw [em] at c
      have := fl_uq hm h c
      subst this
      exact hx
theorem ok_8 : fOK_8 Inv := by
  intro t x y ⟨q, C, cv, K, T, hS⟩
  refine c_field hS (fun hno => ⟨fun _ t1 e1 => ?_, fun i e => (nomatch e)⟩) (fun n g t2 hf e _ hS2 ht hk => ⟨fun e => (nomatch e), fun i2 e2 => ?_⟩)
  · subst e1
    have h0 := ST_0 hS
    exact m_num0 h0.2.2.1 h0.1.1 hno ⟨fun z => absurd rfl z, fun _ => ⟨rfl, ST_Inv h0⟩⟩
  · obtain rfl := Option.some.inj e2
    subst e
    have h0 := ST_0 hS2
    have hs := fl_sz hf
    refine ⟨hk, s_has hf ht (fun c => ⟨fun z => absurd rfl z, fun _ t1 e1 => ?_⟩) (fun a ha ea => ⟨fun _ => ?_, fun z => absurd z i0⟩)⟩
    · subst e1
      exact m_num1 h0.2.2.1 hf c ⟨fun z => absurd rfl z, fun _ => ⟨rfl, ST_Inv h0⟩⟩
    · subst ea
      refine s_sgn hf ht ha (fun t1 e1 => ?_)
      subst e1
      refine m_num2 h0.2.2.1 hf ha ⟨fun _ => m_signs h0.2.2.1 h0.2.2.2.1 hf (fun t3 e3 hS3 hx => ?_), fun z => absurd z i0⟩
      rw [nI_clamp (by omega), hx a ha]
      exact ⟨vp_in_nI (by omega) (by omega), rfl, ST_Inv (ST_U h0 e3 hS3)⟩
/-- the greatest root -/
theorem c_bound {t : fcS} {L r : Nat} (hL : L < 2 ^ 16) (hr : r * r ≤ L) (hr2 : L < (r + 1) * (r + 1)) {post : Int32 → fcS → Prop} (h : post (nI r) t) : ∀ d v, v + d = r → q_X4_bound_28 post (d + 1) (nI L) (nI v) t := by
  have hrL : r ≤ L := by
    rcases Nat.eq_zero_or_pos r with w | w
    · omega
    · exact Nat.le_trans (Nat.le_mul_of_pos_right r w) hr
  have hr3 : (r + 1) * (r + 1) < 2 ^ 31 := by
    have h1 : (r + 1) * (r + 1) = r * r + 2 * r + 1 := by rw [Nat.add_mul, Nat.mul_add]; omega
    omega
  intro d
  induction d with
  | zero =>
    intro v e
    have e : v = r := by omega
    subst e
    unfold q_X4_bound_28
    refine ⟨fun _ => h, fun _ => ⟨fun _ => h, fun c => absurd ?_ c⟩⟩
    rw [nI_1, pk_mul]
    exact nI_lt hr2 hr3
  | succ d ih =>
    intro v e
    unfold q_X4_bound_28
    have hv : (v + 1) * (v + 1) ≤ r * r := Nat.mul_le_mul (by omega) (by omega)
    rw [nI_1, pk_mul]
    have hvL : v < L := by
      have : (v + 1) * 1 ≤ (v + 1) * (v + 1) := Nat.mul_le_mul_left _ (by omega)
      omega
    refine ⟨fun c => absurd ((nI_leI (by omega) (by omega)).mp c) (by omega), fun _ => ⟨fun c => absurd ((nI_ltI (by omega) (by omega)).mp c) (by omega), fun _ x2 e2 => ?_⟩⟩
    rw [e2]
    exact ih (v + 1) (by omega)
theorem m_bound {t : fcS} {q g L r : Nat} (hp : mp t q) (hLe : 4 * g * g * (q + 1) = L) (hL : L < 2 ^ 16) (hr : r * r ≤ L) (hr2 : L < (r + 1) * (r + 1)) {post : Int32 → fcS → Prop} (h : post (nI r) t) : ∀ d v, v + d = r → q_X5_bound_21 post (d + 1) (nI g) (nI v) t := by
  have hrL : r ≤ L := by
    rcases Nat.eq_zero_or_pos r with w | w
    · omega
    · exact Nat.le_trans (Nat.le_mul_of_pos_right r w) hr
  have hr3 : (r + 1) * (r + 1) < 2 ^ 31 := by
    have h1 : (r + 1) * (r + 1) = r * r + 2 * r + 1 := by rw [Nat.add_mul, Nat.mul_add]; omega
    omega
  have hE : (4 : Int32) * nI g * nI g * fgi t 53 1 = nI L := by
    rw [show fgi t 53 1 = nI (q + 1) from hp, show (4 : Int32) = nI 4 from rfl, pk_mul, pk_mul, pk_mul, hLe]
  intro d
  induction d with
  | zero =>
    intro v e
    have e : v = r := by omega
    subst e
    unfold q_X5_bound_21
    rw [hE, nI_1, pk_mul]
    exact ⟨fun _ => h, fun c => absurd (nI_lt hr2 hr3) c⟩
  | succ d ih =>
    intro v e
    unfold q_X5_bound_21
    have hv : (v + 1) * (v + 1) ≤ r * r := Nat.mul_le_mul (by omega) (by omega)
    rw [hE, nI_1, pk_mul]
    refine ⟨fun c => absurd ((nI_ltI (by omega) (by omega)).mp c) (by omega), fun _ x2 e2 => ?_⟩
    rw [e2]
    exact ih (v + 1) (by omega)
theorem root_ex (L : Nat) : ∃ r, r * r ≤ L ∧ L < (r + 1) * (r + 1) := by
  induction L with
  | zero => exact ⟨0, by omega, by omega⟩
  | succ L ih =>
    obtain ⟨r, h1, h2⟩ := ih
    rcases Nat.lt_or_ge (L + 1) ((r + 1) * (r + 1)) with w | w
    · exact ⟨r, by omega, w⟩
    · refine ⟨r + 1, w, ?_⟩
      have : (r + 1) * (r + 1) < (r + 1 + 1) * (r + 1 + 1) := Nat.mul_lt_mul_of_lt_of_le (by omega) (by omega) (by omega)
      omega
theorem ok_21 : fOK_21 Inv := by
  intro t x ⟨q, C, cv, K, T, hS⟩
  have h0 := ST_0 hS
  have hl := isP_lo hS.1.1
  by_cases hg : ∃ g, (1 ≤ g ∧ g ≤ 2) ∧ x = nI g
  · obtain ⟨g, ⟨g1, g2⟩, rfl⟩ := hg
    have hL : 4 * g * g * (q + 1) < 2 ^ 16 := by
      have : 4 * g * g * (q + 1) ≤ 4 * 2 * 2 * 13 := Nat.mul_le_mul (Nat.mul_le_mul (Nat.mul_le_mul (Nat.le_refl 4) g2) g2) (by omega)
      omega
    obtain ⟨r, r1, r2⟩ := root_ex (4 * g * g * (q + 1))
    refine ⟨fun c => absurd ((nI_ltI (b := 1) (by omega) (by omega)).mp c) (by omega), fun _ => ⟨fun _ x1 e1 => ?_, fun c => absurd (show nI g ≤ nI 2 from nI_le g2 (by omega)) c⟩⟩
    rw [show fgi t 1 0 = nI (q + 1) from hS.2.1.1.1, show (4 : Int32) = nI 4 from rfl, pk_mul, pk_mul, pk_mul] at e1
    subst e1
    refine ⟨r + 1, c_bound hL r1 r2 (fun t1 e1 => ?_) r 0 (by omega)⟩
    subst e1
    refine m_in (fun c => ?_) (fun _ _ => ⟨fun _ => ⟨r + 1, ?_⟩, fun z => absurd z i0⟩)
    · rw [ti_i, nI_toInt (by omega)] at c
      have e2 : (2 : Int64).toInt = 2 := by decide
      rw [ti_1, e2] at c
      omega
    · exact m_bound h0.2.2.1.1 rfl hL r1 r2 ⟨rfl, ST_Inv h0⟩ r 0 (by omega)
  · have hno : x.toInt < 1 ∨ 2 < x.toInt := by
      rcases Int.lt_or_le x.toInt 1 with w | w
      · exact Or.inl w
      · rcases Int.lt_or_le 2 x.toInt with w2 | w2
        · exact Or.inr w2
        · exact absurd ⟨x.toInt.toNat, by omega, nI_inj2 (by omega) (by omega)⟩ hg
    have fin : q_X5_bound t x (fun r2 t2 => (-1 : Int32) = r2 ∧ Inv t2) := by
      intro t1 e1
      subst e1
      refine m_in (fun _ => ⟨fun z => absurd rfl z, fun _ => ⟨rfl, ST_Inv h0⟩⟩) (fun c1 c2 => ?_)
      have e2 : (2 : Int64).toInt = 2 := by decide
      rw [ti_i] at c1 c2
      rw [ti_1] at c1
      rw [e2] at c2
      omega
    refine ⟨fun _ => fin, fun c => ⟨fun c2 => ?_, fun _ => fin⟩⟩
    rw [Int32.lt_iff_toInt_lt, show (1 : Int32).toInt = 1 from by decide] at c
    rw [Int32.le_iff_toInt_le, show (2 : Int32).toInt = 2 from by decide] at c2
    omega
