/-! ITS POLYNOMIAL -/
theorem pmv_pz {q : Nat} {F : PS q} (c : Fin (q + 1)) {n m : Nat} (hF : dl F (n + 1)) : ∀ j, j ≤ m - n → pmv F c j m = pz
  | 0, _ => rfl
  | j + 1, hj => by
    rw [pmv, pmv_pz c hF j (by omega), pm_z, hF (m - j) (by omega)]
    funext i
    show (0 : Fin (q + 1)) + (if i = 0 then 0 else 0) = 0
    split <;> grind
theorem pmv_ext {q : Nat} {F : PS q} (c : Fin (q + 1)) {n m : Nat} (hF : dl F (n + 1)) (hnm : n ≤ m) : ∀ d, d ≤ n + 1 → pmv F c (m - n + d) m = pmv F c d n
  | 0, _ => pmv_pz c hF (m - n) (Nat.le_refl _)
  | d + 1, hd => by
    rw [show m - n + (d + 1) = m - n + d + 1 by omega, pmv, pmv, pmv_ext c hF hnm d (by omega), show m - (m - n + d) = n - d by omega]
theorem pmv_7 {q : Nat} {F : PS q} (c : Fin (q + 1)) {n : Nat} (hF : dl F (n + 1)) (hn : n ≤ 6) : pmv F c (n + 1) n = pmv F c 7 6 := by
  have := pmv_ext c hF hn (n + 1) (Nat.le_refl _)
  rw [show 6 - n + (n + 1) = 7 by omega] at this
  exact this.symm
theorem plin_0 {q : Nat} (f : PS q) (c : Fin (q + 1)) : pl_mul f (plin c) = padd (psh 1 f) (pscl f c) := by
  have e : plin c = padd (pmo 1 1) (pl_c c) := by
    funext i
    show (if i = 0 then c else if i = 1 then 1 else 0) = (if i = 1 then 1 else 0) + (if i = 0 then c else 0)
    by_cases h0 : i = 0
    · subst h0
      rw [if_pos rfl, if_neg (by omega), if_pos rfl]; grind
    · rw [if_neg h0, if_neg h0]; grind
  rw [e, pm_add, pl_mul_comm f (pmo 1 1), pmo_mul, pl_mul_c]
  funext i
  show psh 1 (pscl f 1) i + f i * c = psh 1 f i + f i * c
  unfold psh pscl
  split
  · rfl
  · grind
theorem pmv_scl {q : Nat} (F : PS q) (c D : Fin (q + 1)) (n : Nat) : ∀ d, pmv (pscl F D) c d n = pscl (pmv F c d n) D
  | 0 => by
    funext i
    show (0 : Fin (q + 1)) = 0 * D
    grind
  | d + 1 => by
    rw [pmv, pmv, pmv_scl F c D n d, pscl_mul]
    funext i
    show pl_mul (pmv F c d n) (plin c) i * D + (if i = 0 then F (n - d) * D else 0) = (pl_mul (pmv F c d n) (plin c) i + (if i = 0 then F (n - d) else 0)) * D
    split <;> grind
theorem pmv_none {q : Nat} (F : PS q) (n : Nat) : ∀ d, d ≤ n + 1 → pmv F 0 d n = fun i => if i < d then F (n + 1 - d + i) else 0
  | 0, _ => by
    funext i
    rw [if_neg (by omega)]; rfl
  | d + 1, hd => by
    rw [pmv, pmv_none F n d (by omega), plin_0]
    funext i
    show (psh 1 (fun i => if i < d then F (n + 1 - d + i) else 0) i + (if i < d then F (n + 1 - d + i) else 0) * 0) + (if i = 0 then F (n - d) else 0) = if i < d + 1 then F (n + 1 - (d + 1) + i) else 0
    unfold psh
    by_cases h0 : i = 0
    · subst h0
      rw [if_pos (by omega), if_pos rfl, if_pos (show 0 < d + 1 by omega), show n + 1 - (d + 1) + 0 = n - d by omega]
      grind
    · rw [if_neg (by omega), if_neg h0]
      show (if i - 1 < d then F (n + 1 - d + (i - 1)) else 0) + (if i < d then F (n + 1 - d + i) else 0) * 0 + 0 = if i < d + 1 then F (n + 1 - (d + 1) + i) else 0
      by_cases h1 : i - 1 < d
      · rw [if_pos h1, if_pos (show i < d + 1 by omega), show n + 1 - d + (i - 1) = n + 1 - (d + 1) + i by omega]
        grind
      · rw [if_neg h1, if_neg (show ¬ i < d + 1 by omega)]
        grind
theorem pmv_0 {q : Nat} {F : PS q} (hF : dl F 7) : pmv F 0 7 6 = F := by
  rw [pmv_none F 6 7 (by omega)]
  funext i
  by_cases c : i < 7
  · rw [if_pos c, show 6 + 1 - 7 + i = i by omega]
  · rw [if_neg c, hF i (by omega)]
theorem pmv_top {q : Nat} (F : PS q) (c : Fin (q + 1)) (n : Nat) : ∀ d, pmv F c (d + 1) n d = F n
  | 0 => by
    rw [pmv, pmv, pm_z]
    show (0 : Fin (q + 1)) + (if 0 = 0 then F (n - 0) else 0) = F n
    rw [if_pos rfl]; show 0 + F n = F n; grind
  | d + 1 => by
    rw [pmv, plin_0]
    show (psh 1 (pmv F c (d + 1) n) (d + 1) + pmv F c (d + 1) n (d + 1) * c) + (if d + 1 = 0 then _ else 0) = F n
    rw [if_neg (by omega), pmv_dl F c n (d + 1) (d + 1) (Nat.le_refl _)]
    unfold psh
    rw [if_neg (by omega), show d + 1 - 1 = d by omega, pmv_top F c n d]
    grind
theorem dns_ne {q : Nat} (hq : isP q) : Fin.ofNat (q + 1) (dns q) ≠ 0 := by
  rcases hq with rfl | rfl | rfl | rfl | rfl <;> decide
/-- f scaled, for the KINDS 1 and 2 -/
def cvF (q : Nat) (x : Nat × Nat × Nat) : PS q := if x.1 = 0 then pn q x.2.1 else pscl (pn q x.2.1) (Fin.ofNat (q + 1) (dns q))
theorem cvP_F (q : Nat) (x : Nat × Nat × Nat) : cvP q x = pmv (cvF q x) (Fin.ofNat (q + 1) x.2.2) 7 6 := rfl
theorem scl_ne {q : Nat} (hq : isP q) {c d : Fin (q + 1)} (hc : c ≠ 0) (hd : d ≠ 0) : c * d ≠ 0 := fun z => by
  rcases fin_dom hq z with w | w
  · exact hc w
  · exact hd w
theorem pn_deg {q a : Nat} (h7 : a < (q + 1) ^ 7) (h3 : (q + 1) ^ 3 ≤ a) : ∃ d, 3 ≤ d ∧ d ≤ 6 ∧ dl (pn q a) (d + 1) ∧ pn q a d ≠ 0 := by
  obtain ⟨d, h1, h2⟩ := hd_top (pn_dl h7) (pn_ne0 h7 (by have : 0 < (q + 1) ^ 3 := Nat.pow_pos (by omega); omega))
  refine ⟨d, ?_, ?_, h1, h2⟩
  · rcases Nat.lt_or_ge d 3 with w | w
    · exfalso
      have e := nu_dl h1 (show d + 1 ≤ 7 by omega)
      rw [nu_pn h7] at e
      have hlt := nu_lt (d + 1) (pn q a)
      have : (q + 1) ^ (d + 1) ≤ (q + 1) ^ 3 := Nat.pow_le_pow_right (by omega) (by omega)
      omega
    · exact w
  · rcases Nat.lt_or_ge d 7 with w | w
    · omega
    · exact absurd (pn_dl h7 d w) h2
/-- what a CURVE's polynomials are -/
theorem cv_is {q : Nat} {x : Nat × Nat × Nat} (hq : isP q) (h : cvV q x) : 3 ≤ cvd q x ∧ cvd q x ≤ 6 ∧ hd (pn q x.2.1) (cvd q x) ∧ hd (cvF q x) (cvd q x) ∧ hd (cvP q x) (cvd q x) ∧ dl (cvP q x) 7 ∧ cvP q x (cvd q x) ≠ 0 ∧ dl (cvF q x) 7 ∧ cvP q x = pmv (cvF q x) (Fin.ofNat (q + 1) x.2.2) (cvd q x + 1) (cvd q x) ∧ 1 ≤ cvg q x ∧ cvg q x ≤ 2 := by
  obtain ⟨h1, h2, h3, h4, h5, h6⟩ := h
  obtain ⟨d, d3, d6, e1, e2⟩ := pn_deg h3 h2
  have ed : cvd q x = d := ptop_at ⟨e1, Or.inr e2⟩
  have hF : dl (cvF q x) (d + 1) ∧ cvF q x d ≠ 0 := by
    unfold cvF
    by_cases c : x.1 = 0
    · rw [if_pos c]; exact ⟨e1, e2⟩
    · rw [if_neg c]; exact ⟨dl_scl e1 _, scl_ne hq e2 (dns_ne hq)⟩
  have eP : cvP q x = pmv (cvF q x) (Fin.ofNat (q + 1) x.2.2) (d + 1) d := (cvP_F q x).trans (pmv_7 _ hF.1 d6).symm
  have hP1 : dl (cvP q x) (d + 1) := by rw [eP]; exact pmv_dl _ _ _ _
  have hP2 : cvP q x d ≠ 0 := by rw [eP, pmv_top]; exact hF.2
  rw [ed]
  refine ⟨d3, d6, ⟨e1, Or.inr e2⟩, ⟨hF.1, Or.inr hF.2⟩, ⟨hP1, Or.inr hP2⟩, dl_mono hP1 (by omega), hP2, dl_mono hF.1 (by omega), eP, ?_, ?_⟩
  · unfold cvg; split <;> omega
  · unfold cvg; split <;> omega
