/-! THE SIGNS, and the shares stay -/
def eqX (t t2 : fcS) : Prop := eqU t t2 ∧ fga t2 65 = fga t 65
theorem eqX_rf (t : fcS) : eqX t t := ⟨eqU_rf t, rfl⟩
theorem eqX_tr {t t2 t3 : fcS} (h : eqX t t2) (h2 : eqX t2 t3) : eqX t t3 := ⟨eqU_tr h.1 h2.1, h2.2.trans h.2⟩
theorem eqX_W {t t2 : fcS} (h : eqW t t2) : eqX t t2 := ⟨eqU_W h, h.2.2 65 (by omega)⟩
theorem eqX_fsi (t : fcS) {j : Nat} (hj : j = 0 ∨ j = 15) (v : Int32) : eqX t (fsi t 53 j v) := ⟨eqU_fsi t hj v, rfl⟩
theorem eqX_fsa (t : fcS) {r : Nat} (hr : r = 60 ∨ r = 61 ∨ r = 64) (i : Nat) (v : Int32) : eqX t (fsa t r i v) := ⟨eqU_fsa t (by omega) i v, ga_fsaN t (by omega) i v⟩
theorem m_sg2x {t : fcS} {q n : Nat} (hB : RB t q) (h : fl q n) {post : fcS → Prop} (hh : ∀ t2, eqX t t2 → fgi t2 53 15 = fgi t 53 15 → (∀ a, a < (q + 1) ^ n → fga t2 61 a = sg q n a) → post t2) : ∀ d a (t1 : fcS), a + d = (q + 1) ^ n → 1 ≤ a → eqX t t1 → fgi t1 53 15 = fgi t 53 15 → (∀ x, x < (q + 1) ^ n → fga t1 61 x = cit (∃ b, 1 ≤ b ∧ b < a ∧ ml q n b b = x) 1 (-1)) → q_X5_needSigns_41 post (d + 1) (nI n) (nI a) t1 := by
  have hs := fl_sz h
  have hn5 : n < 6 := by obtain ⟨-, f1, f2⟩ := nfd_ok h.1; have := h.2; omega
  intro d
  induction d with
  | zero =>
    intro a t1 e a1 e1 e15 hx
    have hB1 := RB_U hB e1.1
    unfold q_X5_needSigns_41
    rw [nI_clamp (by omega), (hB1.2.2 n h.2.1 h.2.2).1]
    refine ⟨vp_in_nI hn5 (by omega), fun _ => ⟨vp_in_nI (n := 0) (by omega) (by omega), fun t2 e2 => ?_⟩, fun c => absurd (nI_le (by omega) (by omega)) c⟩
    subst e2
    refine hh _ (eqX_tr e1 (eqX_fsa t1 (by omega) _ _)) e15 (fun x hx1 => ?_)
    rw [ga_fsaG, show Int32.toNatClampNeg 0 = 0 from rfl]
    by_cases x0 : x = 0
    · rw [if_pos x0, x0]; rfl
    · rw [if_neg (fun z => x0 z), hx x hx1]
      unfold sg
      rw [if_neg x0]
      have hiff : (∃ b, 1 ≤ b ∧ b < a ∧ ml q n b b = x) ↔ ∃ b, b < (q + 1) ^ n ∧ ml q n b b = x := by
        constructor
        · rintro ⟨b, -, h2, h3⟩; exact ⟨b, by omega, h3⟩
        · rintro ⟨b, h2, h3⟩
          refine ⟨b, ?_, by omega, h3⟩
          rcases Nat.eq_zero_or_pos b with w | w
          · rw [w, ml_zero h] at h3; exact absurd h3.symm x0
          · exact w
      by_cases c : ∃ b, b < (q + 1) ^ n ∧ ml q n b b = x
      · rw [cit_pos c, cit_pos (hiff.mpr c)]
      · rw [cit_neg c, cit_neg (fun z => c (hiff.mp z))]
  | succ d ih =>
    intro a t1 e a1 e1 e15 hx
    have hB1 := RB_U hB e1.1
    unfold q_X5_needSigns_41
    rw [nI_clamp (by omega), (hB1.2.2 n h.2.1 h.2.2).1]
    refine ⟨vp_in_nI hn5 (by omega), fun c => absurd ((nI_leI (by omega) (by omega)).mp c) (by omega), fun _ => ?_⟩
    have ha : a < (q + 1) ^ n := by omega
    refine m_prod hB1 h ha ha (fun t2 e2 => ?_)
    have hlt := ml_lt q n a a
    refine ⟨vp_in_nI (by omega) (by omega), fun t5 e5 x6 e6 => ?_⟩
    rw [nI_clamp (by omega)] at e5
    subst e5
    rw [e6, nI_1]
    refine ih (a + 1) _ (by omega) (by omega) (eqX_tr e1 (eqX_tr (eqX_W e2) (eqX_fsa t2 (by omega) _ _))) ?_ (fun x hx1 => ?_)
    · show fgi t2 53 15 = _
      rw [eqW_gi e2]; exact e15
    · rw [ga_fsaG, e2.2.2 61 (by omega), hx x hx1]
      by_cases c : x = ml q n a a
      · rw [if_pos c, cit_pos ⟨a, a1, by omega, c.symm⟩]
      · rw [if_neg c]
        have hiff : (∃ b, 1 ≤ b ∧ b < a ∧ ml q n b b = x) ↔ ∃ b, 1 ≤ b ∧ b < a + 1 ∧ ml q n b b = x := by
          constructor
          · rintro ⟨b, h1, h2, h3⟩; exact ⟨b, h1, by omega, h3⟩
          · rintro ⟨b, h1, h2, h3⟩
            refine ⟨b, h1, ?_, h3⟩
            rcases Nat.lt_or_ge b a with w | w
            · exact w
            · have : b = a := by omega
              subst this
              exact absurd h3.symm c
        by_cases c2 : ∃ b, 1 ≤ b ∧ b < a ∧ ml q n b b = x
        · rw [cit_pos c2, cit_pos (hiff.mp c2)]
        · rw [cit_neg c2, cit_neg (fun z => c2 (hiff.mpr z))]
theorem m_sg1x {t : fcS} {q n : Nat} (hB : RB t q) (h : fl q n) {post : fcS → Prop} (hh : ∀ t2, eqX t t2 → fgi t2 53 15 = fgi t 53 15 → (∀ a, a < (q + 1) ^ n → fga t2 61 a = sg q n a) → post t2) : ∀ d a (t1 : fcS), a + d = (q + 1) ^ n → eqX t t1 → fgi t1 53 15 = fgi t 53 15 → (∀ x, x < a → fga t1 61 x = -1) → q_X5_needSigns_16 post (d + 1) (nI n) (nI a) t1 := by
  have hs := fl_sz h
  have hn5 : n < 6 := by obtain ⟨-, f1, f2⟩ := nfd_ok h.1; have := h.2; omega
  intro d
  induction d with
  | zero =>
    intro a t1 e e1 e15 hx
    have hB1 := RB_U hB e1.1
    unfold q_X5_needSigns_16
    rw [nI_clamp (by omega), (hB1.2.2 n h.2.1 h.2.2).1]
    refine ⟨vp_in_nI hn5 (by omega), fun _ => ⟨(q + 1) ^ n - 1 + 1, ?_⟩, fun c => absurd (nI_le (by omega) (by omega)) c⟩
    refine m_sg2x hB h hh ((q + 1) ^ n - 1) 1 t1 (by omega) (Nat.le_refl 1) e1 e15 (fun x hx1 => ?_)
    rw [hx x (by omega), cit_neg]
    rintro ⟨b, h1, h2, -⟩
    omega
  | succ d ih =>
    intro a t1 e e1 e15 hx
    have hB1 := RB_U hB e1.1
    unfold q_X5_needSigns_16
    rw [nI_clamp (by omega), (hB1.2.2 n h.2.1 h.2.2).1]
    refine ⟨vp_in_nI hn5 (by omega), fun c => absurd ((nI_leI (by omega) (by omega)).mp c) (by omega), fun _ => ⟨vp_in_nI (by omega) (by omega), fun t7 e7 x8 e8 => ?_⟩⟩
    rw [nI_clamp (by omega)] at e7
    subst e7
    rw [e8, nI_1]
    refine ih (a + 1) _ (by omega) (eqX_tr e1 (eqX_fsa t1 (by omega) _ _)) e15 (fun x hx1 => ?_)
    rw [ga_fsaG]
    by_cases c : x = a
    · rw [if_pos c]
    · rw [if_neg c]; exact hx x (by omega)
theorem m_signsx {t : fcS} {q n : Nat} (hB : RB t q) (hS : RS t q) (h : fl q n) {post : fcS → Prop} (hh : ∀ t2, eqX t t2 → RS t2 q → (∀ a, a < (q + 1) ^ n → fga t2 61 a = sg q n a) → post t2) : q_X5_needSigns t (nI n) post := by
  have hs := fl_sz h
  have hn5 : n < 6 := by obtain ⟨-, f1, f2⟩ := nfd_ok h.1; have := h.2; omega
  unfold q_X5_needSigns
  refine ⟨fun _ t1 e1 => ?_, fun c => ?_⟩
  · subst e1
    refine ⟨(q + 1) ^ n + 1, ?_⟩
    have e15 : fgi (fsi t 53 15 (nI n)) 53 15 = nI n := gi_same t 53 15 _
    refine m_sg1x (RB_U hB (eqX_fsi t (Or.inr rfl) _).1) h (fun t2 e2 e3 hx => ?_) ((q + 1) ^ n) 0 _ (by omega) (eqX_rf _) rfl (fun x hx => by omega)
    refine hh t2 (eqX_tr (eqX_fsi t (Or.inr rfl) _) e2) (Or.inr ⟨n, h, e3.trans e15, hx⟩) hx
  · refine hh t (eqX_rf t) hS ?_
    rcases hS with z | ⟨m, hm, em, hx⟩
    · rw [z] at c
      exact absurd c.symm (nI_ne0 (by have := h.2; omega) (by omega))
    · rw [em] at c
      have := fl_uq hm h c
      subst this
      exact hx
