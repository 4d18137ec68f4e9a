theorem cv_O {q : Nat} {x : Nat × Nat × Nat} (hq : isP q) (hV : cvV q x) (ho : cvd q x % 2 = 1) : cvO (cvP q x) (cvd q x) (cvg q x) := by
  obtain ⟨d3, d6, -, -, hP, hP7, hP0, -, -, g1, g2⟩ := cv_is hq hV
  refine ⟨hq, hP.1, hP0, ?_, g1, g2, cv_bzt hq hV⟩
  unfold cvg
  by_cases c : cvd q x ≤ 4
  · rw [if_pos c]; omega
  · rw [if_neg c]; omega
theorem cls_450 {q : Nat} {x : Nat × Nat × Nat} (hq : isP q) (hV : cvV q x) (ho : cvd q x % 2 = 1) : (cls q (cvP q x) (cvg q x)).length ≤ 450 := sorry
