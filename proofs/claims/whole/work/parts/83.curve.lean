/-! a new CURVE: the class -/
def eqC (t t2 : fcS) (k : Nat) : Prop := (∀ a j, a ≠ k → a ≠ k + 2 → fgi t2 a j = fgi t a j) ∧ t2.2 = t.2
theorem eqC_fsi {t t2 : fcS} {k : Nat} (h : eqC t t2 k) {a : Nat} (ha : a = k ∨ a = k + 2) (j : Nat) (v : Int32) : eqC t (fsi t2 a j v) k := ⟨fun b i h1 h2 => by rw [gi_fsi, if_neg (by omega)]; exact h.1 b i h1 h2, h.2⟩
theorem eqC_rf (t : fcS) (k : Nat) : eqC t t k := ⟨fun _ _ _ _ => rfl, rfl⟩
theorem eqC_rp {t t2 : fcS} {k q : Nat} (h : eqC t t2 k) (hk : 21 ≤ k) (hp : rp t q) : rp t2 q := by unfold rp; rw [h.1 1 0 (by omega) (by omega)]; exact hp
theorem fv_val {q a : Nat} (h : a < q + 1) : (Fin.ofNat (q + 1) a).val = a := Nat.mod_eq_of_lt h
theorem s_cbegin {t : fcS} {q k : Nat} {x : Nat × Nat × Nat} (hq : isP q) (hV : cvV q x) (hp : rp t q) (hk : 21 ≤ k) {a2 : Int32} (ha2 : x.1 = 2 → a2 = nI x.2.2) {post : fcS → Prop} (hh : ∀ t2, eqC t t2 k → CD t2 q k x → fgi t2 k 3 = 0 → fgi t2 (k + 2) 4 = 0 → post t2) : q_X1_begin t k (nI x.1) (nI x.2.1) a2 (nI (dns q)) post := by
  have hl := isP_lo hq
  have h7 : (q + 1) ^ 7 < 2 ^ 30 := pw7 hq (by omega)
  obtain ⟨c1, c2, c3, c4, c5, c6, c7, c8, c9, c10, c11⟩ := cv_is hq hV
  obtain ⟨v1, v2, v3, v4, v5, v6⟩ := hV
  obtain ⟨d1, d2, d3, d4⟩ := dns_ok hq
  have hf : nI x.2.1 = Ni q (pn q x.2.1) := Ni_pn hq h7 v3
  intro t1 e1 t2 e2
  have mv : ∀ t7 : fcS, eqC t t7 k → fgi t7 k 4 = nI x.1 → fgi t7 k 5 = nI x.2.1 → fgi t7 k 6 = nI x.2.2 → fgi t7 k 7 = nI (cvd q x) → fgi t7 k 8 = nI (cvg q x) → q_X1_begin_86 k post (Ni q (cvF q x)) t7 := fun t7 f7 g4 g5 g6 g7 g8 => by
    unfold q_X1_begin_86
    rw [g6]
    have et : nI x.2.2 = nI (Fin.ofNat (q + 1) x.2.2).val := by rw [fv_val (by omega)]
    rw [et]
    refine s_mov hq (eqC_rp f7 hk hp) h7 c8 c4 (by omega) _ ?_
    rw [← c9]
    intro t10 e10 t11 e11 t12 e12 t13 e13 t14 e14
    have g9 : fgi t11 k 9 = Ni q (cvP q x) := by
      subst e11 e10
      rw [gi_fsi, if_neg (by omega), gi_same]
    have g8' : fgi t11 k 8 = nI (cvg q x) := by
      subst e11 e10
      rw [gi_fsi, if_neg (by omega), gi_fsi, if_neg (by omega)]; exact g8
    rw [g9] at e12
    rw [g8'] at e13
    have o4 : fgi t14 k 4 = nI x.1 := by
      subst e14 e13 e12 e11 e10
      rw [gi_fsi, if_neg (by omega), gi_fsi, if_neg (by omega), gi_fsi, if_neg (by omega), gi_fsi, if_neg (by omega), gi_fsi, if_neg (by omega)]; exact g4
    have o5 : fgi t14 k 5 = nI x.2.1 := by
      subst e14 e13 e12 e11 e10
      rw [gi_fsi, if_neg (by omega), gi_fsi, if_neg (by omega), gi_fsi, if_neg (by omega), gi_fsi, if_neg (by omega), gi_fsi, if_neg (by omega)]; exact g5
    have o6 : fgi t14 k 6 = nI x.2.2 := by
      subst e14 e13 e12 e11 e10
      rw [gi_fsi, if_neg (by omega), gi_fsi, if_neg (by omega), gi_fsi, if_neg (by omega), gi_fsi, if_neg (by omega), gi_fsi, if_neg (by omega)]; exact g6
    have o7 : fgi t14 k 7 = nI (cvd q x) := by
      subst e14 e13 e12 e11 e10
      rw [gi_fsi, if_neg (by omega), gi_fsi, if_neg (by omega), gi_fsi, if_neg (by omega), gi_fsi, if_neg (by omega), gi_fsi, if_neg (by omega)]; exact g7
    have o8 : fgi t14 k 8 = nI (cvg q x) := by
      subst e14 e13 e12
      rw [gi_fsi, if_neg (by omega), gi_fsi, if_neg (by omega), gi_fsi, if_neg (by omega)]; exact g8'
    have o9 : fgi t14 k 9 = Ni q (cvP q x) := by
      subst e14 e13 e12
      rw [gi_fsi, if_neg (by omega), gi_fsi, if_neg (by omega), gi_fsi, if_neg (by omega)]; exact g9
    have o3 : fgi t14 k 3 = 0 := by
      subst e14 e13 e12 e11
      rw [gi_fsi, if_neg (by omega), gi_fsi, if_neg (by omega), gi_fsi, if_neg (by omega), gi_same]
    refine hh t14 ?_ ⟨o4, o5, o6, o7, o8, o9, ?_, ?_⟩ o3 ?_
    · subst e14 e13 e12 e11 e10
      exact eqC_fsi (eqC_fsi (eqC_fsi (eqC_fsi (eqC_fsi f7 (Or.inl rfl) _ _) (Or.inl rfl) _ _) (Or.inr rfl) _ _) (Or.inr rfl) _ _) (Or.inr rfl) _ _
    · subst e14 e13 e12
      rw [gi_fsi, if_neg (by omega), gi_fsi, if_neg (by omega), gi_same]
    · subst e14 e13
      rw [gi_fsi, if_neg (by omega), gi_same]
    · subst e14
      rw [gi_same]
  have b21 : ∀ vs0 : Int32, vs0 = nI x.2.2 → q_X1_begin_21 k post (nI x.2.1) (nI (dns q)) vs0 t2 := fun vs0 evs => by
    subst evs
    intro t3 e3
    have f3 : eqC t t3 k := by
      subst e3 e2 e1
      exact eqC_fsi (eqC_fsi (eqC_fsi (eqC_rf t k) (Or.inl rfl) _ _) (Or.inl rfl) _ _) (Or.inl rfl) _ _
    rw [hf]
    refine s_degS hq (eqC_rp f3 hk hp) h7 (pn_dl v3) c3 (fun t6 e6 => ?_)
    have g7 : fgi t6 k 7 = nI (cvd q x) := by subst e6; exact gi_same _ _ _ _
    have b50 : ∀ g : Int32, g = nI (cvg q x) → q_X1_begin_50 k post (nI (dns q)) g t6 := fun g eg => by
      subst eg
      intro t7 e7
      have f7 : eqC t t7 k := by
        subst e7 e6
        exact eqC_fsi (eqC_fsi f3 (Or.inl rfl) _ _) (Or.inl rfl) _ _
      have o4 : fgi t7 k 4 = nI x.1 := by
        subst e7 e6 e3 e2 e1
        rw [gi_fsi, if_neg (by omega), gi_fsi, if_neg (by omega), gi_fsi, if_neg (by omega), gi_fsi, if_neg (by omega), gi_same]
      have o5 : fgi t7 k 5 = nI x.2.1 := by
        subst e7 e6 e3 e2
        rw [gi_fsi, if_neg (by omega), gi_fsi, if_neg (by omega), gi_fsi, if_neg (by omega), gi_same]
      have o6 : fgi t7 k 6 = nI x.2.2 := by
        subst e7 e6 e3
        rw [gi_fsi, if_neg (by omega), gi_fsi, if_neg (by omega), gi_same]
      have o7 : fgi t7 k 7 = nI (cvd q x) := by
        subst e7
        rw [gi_fsi, if_neg (by omega)]; exact g7
      have o8 : fgi t7 k 8 = nI (cvg q x) := by subst e7; exact gi_same _ _ _ _
      have hm := mv t7 f7 o4 o5 o6 o7 o8
      rw [o4, o5]
      refine ⟨fun c => ?_, fun c => ?_⟩
      · have hx0 : x.1 = 0 := by
          have := (nI_ltI (b := 1) (by omega) (by omega)).mp c
          omega
        have eF : cvF q x = pn q x.2.1 := by unfold cvF; rw [if_pos hx0]
        rw [eF, ← hf] at hm
        exact hm
      · have hx0 : ¬ x.1 = 0 := fun z => c (by rw [z]; decide)
        have eF : cvF q x = pscl (pn q x.2.1) (Fin.ofNat (q + 1) (dns q)) := by unfold cvF; rw [if_neg hx0]
        rw [hf]
        have ed : nI (dns q) = nI (Fin.ofNat (q + 1) (dns q)).val := by rw [fv_val d1]
        rw [ed]
        refine s_scl hq (eqC_rp f7 hk hp) h7 (pn_dl v3) _ ?_
        rw [← eF]; exact hm
    refine ⟨fun c => b50 _ ?_, fun c => b50 _ ?_⟩
    · rw [g7] at c
      have := (nI_ltI (a := 4) (by omega) (by omega)).mp c
      unfold cvg; rw [if_neg (by omega)]; rfl
    · rw [g7] at c
      unfold cvg
      rw [if_pos]
      · rfl
      · rcases Nat.lt_or_ge 4 (cvd q x) with w | w
        · exact absurd (nI_lt (a := 4) w (by omega)) c
        · exact w
  refine ⟨fun c => b21 _ ?_, fun c => b21 _ ?_⟩
  · have : x.1 ≠ 2 := fun z => c (by rw [z]; rfl)
    rw [v5 this]; rfl
  · exact ha2 ((nI_eq (b := 2) (by omega) (by omega)).mp c)
/-- a CURVE more -/
def cvs (cv : Nat → Nat × Nat × Nat) (C : Nat) (x : Nat × Nat × Nat) : Nat → Nat × Nat × Nat := fun j => if j = C then x else cv j
theorem IC_new {t t2 : fcS} {q C : Nat} {cv : Nat → Nat × Nat × Nat} {K K2 : Int32} {T : Int64} {x : Nat × Nat × Nat} (h : IC q C cv K T t) (hC : C < 8) (e1 : ∀ a j, a ≠ 21 + 4 * C → a ≠ 21 + 4 * C + 2 → ¬ (a = 0 ∧ (j = 6 ∨ j = 8)) → fgi t2 a j = fgi t a j) (e2 : t2.2 = t.2) (e6 : fgi t2 0 6 = nI (C + 1)) (e8 : fgi t2 0 8 = K2) (hD : CD t2 q (21 + 4 * C) x) (h3 : fgi t2 (21 + 4 * C) 3 = 0) (h4 : fgi t2 (21 + 4 * C + 2) 4 = 0) : IC q (C + 1) (cvs cv C x) K2 T t2 := by
  obtain ⟨hB, hF, hCC⟩ := h
  have ea : ∀ k, fga t2 k = fga t k := fun k => by unfold fga; rw [e2]
  refine ⟨?_, ?_, ?_⟩
  · refine ⟨?_, ?_, e6, ?_, e8, ?_⟩
    · unfold rp; rw [e1 1 0 (by omega) (by omega) (by omega)]; exact hB.1
    · rw [e1 0 5 (by omega) (by omega) (by omega)]; exact hB.2.1
    · rw [e1 0 7 (by omega) (by omega) (by omega)]; exact hB.2.2.2.1
    · unfold fgj; rw [e2]; exact hB.2.2.2.2.2
  · intro i hi
    have := hF i hi
    refine ⟨by rw [e1 _ _ (by omega) (by omega) (by omega)]; exact this.1, fun q2 hf he => ?_⟩
    rw [e1 _ _ (by omega) (by omega) (by omega)] at he
    obtain ⟨g, hg⟩ := this.2 q2 hf he
    exact ⟨g, tab_gi hg (fun j => e1 _ _ (by omega) (by omega) (by omega)) (ea _) (ea _)⟩
  · intro j hj
    unfold cvs
    by_cases c : j = C
    · subst c
      rw [if_pos rfl]
      exact ⟨hD, Or.inl h3, Or.inl h4⟩
    · rw [if_neg c]
      have := hCC j (by omega)
      unfold CD CS CL at *
      rw [e1 (21 + 4 * j) _ (by omega) (by omega) (by omega), e1 (21 + 4 * j) _ (by omega) (by omega) (by omega), e1 (21 + 4 * j) _ (by omega) (by omega) (by omega), e1 (21 + 4 * j) _ (by omega) (by omega) (by omega), e1 (21 + 4 * j) _ (by omega) (by omega) (by omega), e1 (21 + 4 * j) _ (by omega) (by omega) (by omega), e1 (21 + 4 * j) _ (by omega) (by omega) (by omega), ea, e1 (21 + 4 * j + 2) _ (by omega) (by omega) (by omega), e1 (21 + 4 * j + 2) _ (by omega) (by omega) (by omega), e1 (21 + 4 * j + 2) _ (by omega) (by omega) (by omega), ea]
      exact this
/-- knot() alone changes -/
theorem IC_kn {t t2 : fcS} {q C : Nat} {cv : Nat → Nat × Nat × Nat} {K K2 : Int32} {T : Int64} (h : IC q C cv K T t) (hC : C ≤ 8) (e : t2 = fsi t 0 8 K2) : IC q C cv K2 T t2 := by
  obtain ⟨hB, hF, hCC⟩ := h
  subst e
  refine ⟨⟨hB.1, hB.2.1, hB.2.2.1, hB.2.2.2.1, gi_same _ _ _ _, hB.2.2.2.2.2⟩, CF_fsi hF (by omega) _, ?_⟩
  intro j hj
  have := hCC j hj
  unfold CD CS CL at *
  have e1 : ∀ a b, a ≠ 0 → fgi (fsi t 0 8 K2) a b = fgi t a b := fun a b ha => by rw [gi_fsi, if_neg (by omega)]
  rw [e1 (21 + 4 * j) _ (by omega), e1 (21 + 4 * j) _ (by omega), e1 (21 + 4 * j) _ (by omega), e1 (21 + 4 * j) _ (by omega), e1 (21 + 4 * j) _ (by omega), e1 (21 + 4 * j) _ (by omega), e1 (21 + 4 * j) _ (by omega), e1 (21 + 4 * j + 2) _ (by omega), e1 (21 + 4 * j + 2) _ (by omega), e1 (21 + 4 * j + 2) _ (by omega)]
  exact this
theorem s_isCP {t : fcS} {q : Nat} (hq : isP q) (hp : rp t q) {x : Int32} {post : Int32 → fcS → Prop} (h0 : (∀ f, (q + 1) ^ 3 ≤ f → f < (q + 1) ^ 7 → x ≠ nI f) → post 0 t) (h1 : ∀ f, (q + 1) ^ 3 ≤ f → f < (q + 1) ^ 7 → x = nI f → post 1 t) : q_X4_isCurvePolynomial t x post := by
  have h7 : (q + 1) ^ 7 < 2 ^ 30 := pw7 hq (by omega)
  have h3 : (q + 1) ^ 3 < 2 ^ 30 := pw7 hq (by omega)
  unfold q_X4_isCurvePolynomial
  refine s_place (k := 3) hp h3 (by omega) ⟨fun c => h0 (fun f a b e => ?_), fun c => s_place (k := 7) hp h7 (by omega) ⟨fun c2 => h0 (fun f a b e => ?_), fun c2 => ?_⟩⟩
  · rw [e] at c
    exact absurd ((nI_ltI (by omega) (by omega)).mp c) (by omega)
  · rw [e] at c2
    exact absurd ((nI_leI (by omega) (by omega)).mp c2) (by omega)
  · have hx : ¬ x < 0 := fun z => c (by
      have a := Int32.lt_iff_toInt_lt.mp z
      rw [Int32.lt_iff_toInt_lt, nI_toInt (by omega)]
      rw [show (0 : Int32).toInt = 0 from by decide] at a
      omega)
    obtain ⟨f, hf, rfl⟩ := nI_of hx
    refine h1 f ?_ ?_ rfl
    · rcases Nat.lt_or_ge f ((q + 1) ^ 3) with w | w
      · exact absurd (nI_lt w (by omega)) c
      · exact w
    · rcases Nat.lt_or_ge f ((q + 1) ^ 7) with w | w
      · exact w
      · exact absurd (nI_le w hf) c2
