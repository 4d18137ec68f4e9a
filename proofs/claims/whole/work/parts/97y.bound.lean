theorem cv_O {q : Nat} {x : Nat × Nat × Nat} (hq : isP q) (hV : cvV q x) (ho : cvd q x % 2 = 1) : cvO (cvP q x) (cvd q x) (cvg q x) := by
  obtain ⟨d3, d6, -, -, hP, hP7, hP0, -, -, g1, g2⟩ := cv_is hq hV
  refine ⟨hq, hP.1, hP0, ?_, g1, g2, cv_bzt hq hV⟩
  unfold cvg
  by_cases c : cvd q x ≤ 4
  · rw [if_pos c]; omega
  · rw [if_neg c]; omega
theorem cls_450 {q : Nat} {x : Nat × Nat × Nat} (hq : isP q) (hV : cvV q x) (ho : cvd q x % 2 = 1) : (cls q (cvP q x) (cvg q x)).length ≤ 450 := by
  obtain ⟨-, hP, hP0, hd2, hg1, hg, hbz⟩ := cv_O hq hV ho
  have hP7 : dl (cvP q x) 7 := dl_mono hP (by omega)
  have hA := A_bd hq (cvP q x)
  have hI := I_bd hq (cvP q x)
  have hg12 : cvg q x = 1 ∨ cvg q x = 2 := by omega
  rcases hg12 with e | e
  · rw [e]
    have h1 := N_g1 hq hP7
    have hl := isP_lo hq
    omega
  · rw [e]
    have h2 := N_all hq hP7 hbz
    rw [e] at hd2
    rw [hd2] at hP hP0
    generalize cvP q x = P at *
    by_cases c : q = 12
    · subst c
      rcases Nat.lt_or_ge (Af P) 24 with w | w
      · have : Af P * Af P ≤ 23 * 23 := Nat.mul_le_mul (by omega) (by omega)
        omega
      · have h55 := I_13 (dl_mono hP (by omega)) hP0 w
        have h26 : Af P ≤ 26 := hA
        have h3 : Af P = 24 ∨ Af P = 25 ∨ Af P = 26 := by omega
        rcases h3 with y | y | y <;> rw [y] at h2 <;> omega
    · have hq10 : q ≤ 10 := by rcases hq with z | z | z | z | z <;> omega
      have a1 : (q + 1) * 2 ≤ 22 := by omega
      have a2 : (q + 1) * (q / 2) ≤ 11 * 5 := Nat.mul_le_mul (by omega) (by omega)
      have a3 : Af P * Af P ≤ 22 * 22 := Nat.mul_le_mul (by omega) (by omega)
      omega
