/-! 13: many points, few classes over the pairs -/
theorem ck_at {z1 z2 z3 z4 z5 : Nat} (h1 : z1 ∈ sqs) (h2 : z2 ∈ sqs) (h3 : z3 ∈ sqs) (h4 : z4 ∈ sqs) (h5 : z5 ∈ sqs) : ckz z1 z2 z3 z4 z5 = true := by
  have a := List.all_eq_true.mp ck_all z1 h1
  have a := List.all_eq_true.mp a z2 h2
  have a := List.all_eq_true.mp a z3 h3
  have a := List.all_eq_true.mp a z4 h4
  exact List.all_eq_true.mp a z5 h5
theorem stp_ok {s D' c e o : Nat} {h D F : Fin (12 + 1)} (hs : Fin.ofNat (12 + 1) s = -h) (hD : Fin.ofNat (12 + 1) D' = D) (hc : Fin.ofNat (12 + 1) c = F) {x : Fin (12 + 1) × Fin (12 + 1)} (hx : x = (Fin.ofNat (12 + 1) e, Fin.ofNat (12 + 1) o)) : ((F + (-h * x.1 + 1 * x.2 * D), 0 + (-h * x.2 + 1 * x.1)) : Fin (12 + 1) × Fin (12 + 1)) = (Fin.ofNat (12 + 1) (stp s D' c (e, o)).1, Fin.ofNat (12 + 1) (stp s D' c (e, o)).2) := by
  rw [hx]
  unfold stp
  refine Prod.ext ?_ ?_
  · show F + (-h * Fin.ofNat (12 + 1) e + 1 * Fin.ofNat (12 + 1) o * D) = Fin.ofNat (12 + 1) (c + (s * e + o * D'))
    rw [fo_add 12 c, fo_add 12 (s * e), fo_mul 12 s, fo_mul 12 o, hs, hD, hc]
    generalize Fin.ofNat (12 + 1) e = y
    generalize Fin.ofNat (12 + 1) o = z
    grind
  · show 0 + (-h * Fin.ofNat (12 + 1) o + 1 * Fin.ofNat (12 + 1) e) = Fin.ofNat (12 + 1) (s * o + e)
    rw [fo_add 12 (s * o), fo_mul 12 s, hs]
    generalize Fin.ofNat (12 + 1) e = y
    generalize Fin.ofNat (12 + 1) o = z
    grind
theorem ph_n {Q : PS 12} (hQ : dl Q 6) {s D' : Nat} {h D : Fin (12 + 1)} (hs : Fin.ofNat (12 + 1) s = -h) (hD : Fin.ofNat (12 + 1) D' = D) : ph Q h D = (Fin.ofNat (12 + 1) (prn (Q 0).val (Q 1).val (Q 2).val (Q 3).val (Q 4).val (Q 5).val s D').1, Fin.ofNat (12 + 1) (prn (Q 0).val (Q 1).val (Q 2).val (Q 3).val (Q 4).val (Q 5).val s D').2) := by
  have e : ph Q h D = epr h D 6 Q := @evl_le 12 (Fin (12 + 1) × Fin (12 + 1)) (pairRing D) (fun a => (a, 0)) (hm_pr D) (-h, 1) 6 7 Q hQ (by omega)
  have b : epr h D 1 (ptl (ptl (ptl (ptl (ptl Q))))) = (Fin.ofNat (12 + 1) (Q 5).val, Fin.ofNat (12 + 1) 0) := by
    rw [epr_s, epr_0, fo_self, fo_0]
    refine Prod.ext ?_ ?_
    · show Q 5 + (-h * 0 + 1 * 0 * D) = Q 5
      generalize Q 5 = y
      grind
    · show 0 + (-h * 0 + 1 * 0) = 0
      grind
  have b4 := stp_ok (c := (Q 4).val) (F := Q 4) hs hD (fo_self _) b
  have b3 := stp_ok (c := (Q 3).val) (F := Q 3) hs hD (fo_self _) ((epr_s h D 1 (ptl (ptl (ptl (ptl Q))))).trans b4)
  have b2 := stp_ok (c := (Q 2).val) (F := Q 2) hs hD (fo_self _) ((epr_s h D 2 (ptl (ptl (ptl Q)))).trans b3)
  have b1 := stp_ok (c := (Q 1).val) (F := Q 1) hs hD (fo_self _) ((epr_s h D 3 (ptl (ptl Q))).trans b2)
  have b0 := stp_ok (c := (Q 0).val) (F := Q 0) hs hD (fo_self _) ((epr_s h D 4 (ptl Q)).trans b1)
  exact e.trans ((epr_s h D 5 Q).trans b0)
theorem Jf_n {Q : PS 12} (hQ : dl Q 6) {s D' : Nat} {h : Fin (12 + 1)} (hs : Fin.ofNat (12 + 1) s = -h) (hD1 : D' ≤ 13) (hD : nr (Fin.ofNat (12 + 1) D') = 0) : Jf Q h (Fin.ofNat (12 + 1) D') = jnn (prn (Q 0).val (Q 1).val (Q 2).val (Q 3).val (Q 4).val (Q 5).val s D') D' := by
  unfold Jf
  rw [ph_n hQ hs (rfl : Fin.ofNat (12 + 1) D' = Fin.ofNat (12 + 1) D')]
  generalize prn (Q 0).val (Q 1).val (Q 2).val (Q 3).val (Q 4).val (Q 5).val s D' = x
  have e : Fin.ofNat (12 + 1) x.1 * Fin.ofNat (12 + 1) x.1 - Fin.ofNat (12 + 1) x.2 * Fin.ofNat (12 + 1) x.2 * Fin.ofNat (12 + 1) D' = Fin.ofNat (12 + 1) (x.1 * x.1 + (13 - D') * (x.2 * x.2)) := by
    rw [fo_add 12 (x.1 * x.1), fo_mul 12 x.1, fo_mul 12 (13 - D'), fo_mul 12 x.2, show Fin.ofNat (12 + 1) (13 - D') = -Fin.ofNat (12 + 1) D' from fo_sub (q := 12) hD1]
    generalize Fin.ofNat (12 + 1) x.1 = a
    generalize Fin.ofNat (12 + 1) x.2 = b
    generalize Fin.ofNat (12 + 1) D' = c
    grind
  show (if nr (Fin.ofNat (12 + 1) D') = 0 ∧ 0 < nr (Fin.ofNat (12 + 1) x.1 * Fin.ofNat (12 + 1) x.1 - Fin.ofNat (12 + 1) x.2 * Fin.ofNat (12 + 1) x.2 * Fin.ofNat (12 + 1) D') then 1 else 0) = _
  rw [e, nr_nrn (x.1 * x.1 + (13 - D') * (x.2 * x.2))]
  unfold jnn
  by_cases c : nrn (x.1 * x.1 + (13 - D') * (x.2 * x.2)) = 0
  · rw [if_pos c, if_neg (fun z => by omega)]
  · rw [if_neg c, if_pos ⟨hD, by omega⟩]
theorem Jf_0 (Q : PS 12) (h : Fin (12 + 1)) {D : Fin (12 + 1)} (hD : nr D ≠ 0) : Jf Q h D = 0 := by
  unfold Jf
  rw [if_neg (fun z => hD z.1)]
theorem inh_n {Q : PS 12} (hQ : dl Q 6) {s : Nat} {h : Fin (12 + 1)} (hs : Fin.ofNat (12 + 1) s = -h) : sF (fun D => Jf Q h D) = inh (Q 0).val (Q 1).val (Q 2).val (Q 3).val (Q 4).val (Q 5).val s := by
  have n0 : nr (Fin.ofNat (12 + 1) 0) ≠ 0 := by decide +kernel
  have n1 : nr (Fin.ofNat (12 + 1) 1) ≠ 0 := by decide +kernel
  have n3 : nr (Fin.ofNat (12 + 1) 3) ≠ 0 := by decide +kernel
  have n4 : nr (Fin.ofNat (12 + 1) 4) ≠ 0 := by decide +kernel
  have n9 : nr (Fin.ofNat (12 + 1) 9) ≠ 0 := by decide +kernel
  have n10 : nr (Fin.ofNat (12 + 1) 10) ≠ 0 := by decide +kernel
  have n12 : nr (Fin.ofNat (12 + 1) 12) ≠ 0 := by decide +kernel
  have e : sF (fun D => Jf Q h D) = 0 + Jf Q h (Fin.ofNat (12 + 1) 0) + Jf Q h (Fin.ofNat (12 + 1) 1) + Jf Q h (Fin.ofNat (12 + 1) 2) + Jf Q h (Fin.ofNat (12 + 1) 3) + Jf Q h (Fin.ofNat (12 + 1) 4) + Jf Q h (Fin.ofNat (12 + 1) 5) + Jf Q h (Fin.ofNat (12 + 1) 6) + Jf Q h (Fin.ofNat (12 + 1) 7) + Jf Q h (Fin.ofNat (12 + 1) 8) + Jf Q h (Fin.ofNat (12 + 1) 9) + Jf Q h (Fin.ofNat (12 + 1) 10) + Jf Q h (Fin.ofNat (12 + 1) 11) + Jf Q h (Fin.ofNat (12 + 1) 12) := rfl
  rw [e, Jf_0 Q h n0, Jf_0 Q h n1, Jf_0 Q h n3, Jf_0 Q h n4, Jf_0 Q h n9, Jf_0 Q h n10, Jf_0 Q h n12, Jf_n hQ hs (by omega) (by decide +kernel : nr (Fin.ofNat (12 + 1) 2) = 0), Jf_n hQ hs (by omega) (by decide +kernel : nr (Fin.ofNat (12 + 1) 5) = 0), Jf_n hQ hs (by omega) (by decide +kernel : nr (Fin.ofNat (12 + 1) 6) = 0), Jf_n hQ hs (by omega) (by decide +kernel : nr (Fin.ofNat (12 + 1) 7) = 0), Jf_n hQ hs (by omega) (by decide +kernel : nr (Fin.ofNat (12 + 1) 8) = 0), Jf_n hQ hs (by omega) (by decide +kernel : nr (Fin.ofNat (12 + 1) 11) = 0)]
  unfold inh
  generalize jnn (prn (Q 0).val (Q 1).val (Q 2).val (Q 3).val (Q 4).val (Q 5).val s 2) 2 = x1
  generalize jnn (prn (Q 0).val (Q 1).val (Q 2).val (Q 3).val (Q 4).val (Q 5).val s 5) 5 = x2
  generalize jnn (prn (Q 0).val (Q 1).val (Q 2).val (Q 3).val (Q 4).val (Q 5).val s 6) 6 = x3
  generalize jnn (prn (Q 0).val (Q 1).val (Q 2).val (Q 3).val (Q 4).val (Q 5).val s 7) 7 = x4
  generalize jnn (prn (Q 0).val (Q 1).val (Q 2).val (Q 3).val (Q 4).val (Q 5).val s 8) 8 = x5
  generalize jnn (prn (Q 0).val (Q 1).val (Q 2).val (Q 3).val (Q 4).val (Q 5).val s 11) 11 = x6
  omega
theorem If_n {Q : PS 12} (hQ : dl Q 6) : If Q = inr (Q 0).val (Q 1).val (Q 2).val (Q 3).val (Q 4).val (Q 5).val := by
  have k : ∀ k s : Nat, k + s = 13 → sF (fun D => Jf Q (Fin.ofNat (12 + 1) k) D) = inh (Q 0).val (Q 1).val (Q 2).val (Q 3).val (Q 4).val (Q 5).val s := fun k s e => inh_n hQ (by
    have : s = 12 + 1 - k := by omega
    rw [this]
    exact fo_sub (by omega))
  have e : If Q = 0 + sF (fun D => Jf Q (Fin.ofNat (12 + 1) 0) D) + sF (fun D => Jf Q (Fin.ofNat (12 + 1) 1) D) + sF (fun D => Jf Q (Fin.ofNat (12 + 1) 2) D) + sF (fun D => Jf Q (Fin.ofNat (12 + 1) 3) D) + sF (fun D => Jf Q (Fin.ofNat (12 + 1) 4) D) + sF (fun D => Jf Q (Fin.ofNat (12 + 1) 5) D) + sF (fun D => Jf Q (Fin.ofNat (12 + 1) 6) D) + sF (fun D => Jf Q (Fin.ofNat (12 + 1) 7) D) + sF (fun D => Jf Q (Fin.ofNat (12 + 1) 8) D) + sF (fun D => Jf Q (Fin.ofNat (12 + 1) 9) D) + sF (fun D => Jf Q (Fin.ofNat (12 + 1) 10) D) + sF (fun D => Jf Q (Fin.ofNat (12 + 1) 11) D) + sF (fun D => Jf Q (Fin.ofNat (12 + 1) 12) D) := rfl
  rw [e, k 0 13 rfl, k 1 12 rfl, k 2 11 rfl, k 3 10 rfl, k 4 9 rfl, k 5 8 rfl, k 6 7 rfl, k 7 6 rfl, k 8 5 rfl, k 9 4 rfl, k 10 3 rfl, k 11 2 rfl, k 12 1 rfl, Nat.zero_add]
  rfl
theorem Af_n {Q : PS 12} (hQ : dl Q 6) : Af Q = anr (Q 0).val (Q 1).val (Q 2).val (Q 3).val (Q 4).val (Q 5).val := by
  have k : ∀ a : Nat, nr (pv Q (Fin.ofNat (12 + 1) a)) = nrn (evn (Q 0).val (Q 1).val (Q 2).val (Q 3).val (Q 4).val (Q 5).val a) := fun a => by rw [pv_n hQ, nr_nrn]
  have e : Af Q = 0 + nr (pv Q (Fin.ofNat (12 + 1) 0)) + nr (pv Q (Fin.ofNat (12 + 1) 1)) + nr (pv Q (Fin.ofNat (12 + 1) 2)) + nr (pv Q (Fin.ofNat (12 + 1) 3)) + nr (pv Q (Fin.ofNat (12 + 1) 4)) + nr (pv Q (Fin.ofNat (12 + 1) 5)) + nr (pv Q (Fin.ofNat (12 + 1) 6)) + nr (pv Q (Fin.ofNat (12 + 1) 7)) + nr (pv Q (Fin.ofNat (12 + 1) 8)) + nr (pv Q (Fin.ofNat (12 + 1) 9)) + nr (pv Q (Fin.ofNat (12 + 1) 10)) + nr (pv Q (Fin.ofNat (12 + 1) 11)) + nr (pv Q (Fin.ofNat (12 + 1) 12)) := rfl
  rw [e, k 0, k 1, k 2, k 3, k 4, k 5, k 6, k 7, k 8, k 9, k 10, k 11, k 12, Nat.zero_add]
  rfl
theorem I_norm {Q : PS 12} (hQ : dl Q 6) (h5 : Q 5 ≠ 0) (hA : 24 ≤ Af Q) (e0 : pv Q (Fin.ofNat (12 + 1) 0) = 1) (s1 : nr (pv Q (Fin.ofNat (12 + 1) 1)) = 2) (s2 : nr (pv Q (Fin.ofNat (12 + 1) 2)) = 2) (s3 : nr (pv Q (Fin.ofNat (12 + 1) 3)) = 2) (s4 : nr (pv Q (Fin.ofNat (12 + 1) 4)) = 2) (s5 : nr (pv Q (Fin.ofNat (12 + 1) 5)) = 2) : If Q ≤ 42 := by
  rw [If_n hQ]
  rw [Af_n hQ] at hA
  have vz : ∀ a : Nat, (pv Q (Fin.ofNat (12 + 1) a)).val = evn (Q 0).val (Q 1).val (Q 2).val (Q 3).val (Q 4).val (Q 5).val a % 13 := fun a => by rw [pv_n hQ, fo_val]
  have c := ck_at (sq_mem _ s1) (sq_mem _ s2) (sq_mem _ s3) (sq_mem _ s4) (sq_mem _ s5)
  have z0 : 1 = evn (Q 0).val (Q 1).val (Q 2).val (Q 3).val (Q 4).val (Q 5).val 0 % 13 := by
    rw [← vz 0, e0]; rfl
  obtain ⟨i0, i1, i2, i3, i4, i5⟩ := interp (Q 0).isLt (Q 1).isLt (Q 2).isLt (Q 3).isLt (Q 4).isLt (Q 5).isLt z0 (vz 1) (vz 2) (vz 3) (vz 4) (vz 5)
  unfold ckz at c
  simp only [frc_eq] at c
  rw [i0, i1, i2, i3, i4, i5] at c
  unfold chk at c
  have h5v : (Q 5).val ≠ 0 := fun z => h5 (Fin.ext z)
  rw [Bool.or_eq_true, Bool.or_eq_true, decide_eq_true_eq, decide_eq_true_eq, decide_eq_true_eq] at c
  omega
theorem nr_fiv13 : ∀ x : Fin (12 + 1), nr x = 2 → nr (fiv 12 x) = 2 ∧ fiv 12 x * x = 1 ∧ fiv 12 x ≠ 0 := by decide +kernel
theorem I_13 {P : PS 12} (hP : dl P 6) (h5 : P 5 ≠ 0) (hA : 24 ≤ Af P) : If P ≤ 42 := by
  have hq : isP 12 := by unfold isP; omega
  obtain ⟨t, r0, r1, r2, r3, r4, r5⟩ := run6 (w := fun a => nr (pv P a)) (fun a => ((nr_tab hq).1 _).1) hA
  obtain ⟨k1, k2, k3⟩ := nr_fiv13 _ r0
  generalize fiv 12 (pv P (t + 0)) = k at *
  have eP : psf t 7 P = psf t 6 P := psf_le t hP (by omega)
  have d6 : dl (psf t 7 P) 6 := by rw [eP]; exact psf_dl t 6 P
  have top : psf t 7 P 5 = P 5 := by
    have e1 := pmv_psf P t 5 6 (by omega)
    have e2 := pmv_top P t 5 5
    rw [eP]
    have e3 : (fun i => P (5 + 1 - 6 + i)) = P := by
      funext i
      show P (5 + 1 - 6 + i) = P i
      congr 1; omega
    rw [e3] at e1
    rw [← e1]; exact e2
  have hQ : dl (pscl (psf t 7 P) k) 6 := dl_scl d6 k
  rw [← If_sf P t, ← If_scl (psf t 7 P) k1]
  have val : ∀ a, pv (pscl (psf t 7 P) k) a = k * pv P (t + a) := fun a => by rw [pv_scl, pv_sf]
  have sq : ∀ a, nr (pv P (t + a)) = 2 → nr (pv (pscl (psf t 7 P) k) a) = 2 := fun a h => by rw [val, nr_k13 k _ k1, h]
  refine I_norm hQ (fun z => ?_) (by rw [Af_scl _ k1, Af_sf]; exact hA) ?_ (sq _ r1) (sq _ r2) (sq _ r3) (sq _ r4) (sq _ r5)
  · have z : psf t 7 P 5 * k = 0 := z
    rw [top] at z
    rcases fin_dom hq z with y | y
    · exact h5 y
    · exact k3 y
  · rw [val]; exact k2
