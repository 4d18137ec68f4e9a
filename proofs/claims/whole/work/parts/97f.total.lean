/-! all classes together -/
def Af {q : Nat} (P : PS q) : Nat := sF (fun a => nr (pv P a))
def If {q : Nat} (P : PS q) : Nat := sF (fun h => sF (fun D => Jf P h D))
theorem G_sum {q : Nat} (hq : isP q) (P : PS q) : sF (fun h => sF (fun dd => Gf P h dd)) = Af P * Af P := by
  rw [sF_swp]
  have e1 : ∀ dd : Fin (q + 1), sF (fun h => Gf P h dd) = sF (fun a => nr (pv P a) * nr (pv P (a - dd - dd))) := fun dd => by
    have := sF_perm (s := fun h : Fin (q + 1) => -h + dd) (fun a b e => by
      have e : -a + dd = -b + dd := e
      grind) (fun a => nr (pv P a) * nr (pv P (a - dd - dd)))
    rw [← this]
    refine sF_cong (fun h => ?_)
    unfold Gf
    rw [show -h + dd - dd - dd = -h - dd by grind]
  rw [sF_cong e1, sF_swp]
  have e2 : ∀ a : Fin (q + 1), sF (fun dd => nr (pv P a) * nr (pv P (a - dd - dd))) = nr (pv P a) * Af P := fun a => by
    have hperm : sF (fun dd => nr (pv P (a - dd - dd))) = Af P := sF_perm (s := fun dd : Fin (q + 1) => a - dd - dd) (fun x y e => by
      have e : a - x - x = a - y - y := e
      have := two_ne hq (a := x - y) (by grind)
      grind) (fun b => nr (pv P b))
    rw [sF_mulL, hperm]
  rw [sF_cong e2, sF_mulR]
  rfl
theorem D_sum {q : Nat} (P : PS q) (h : Fin (q + 1)) : sF (fun D => sF (fun dd => if dd * dd = D then Gf P h dd else 0)) = sF (fun dd => Gf P h dd) := by
  rw [sF_swp]
  refine sF_cong (fun dd => ?_)
  rw [sF_one (dd * dd) (fun b hb => if_neg (fun z => hb z.symm)), if_pos rfl]
theorem N_2 {q : Nat} (hq : isP q) {P : PS q} (hP : dl P 7) (hb : bzt P) : 2 * (cld q P 2).length ≤ Af P * Af P + 4 * If P := by
  obtain ⟨-, -, hf, ehf⟩ := nr_tab hq
  have hp2 : (q + 1) ^ 2 = (q + 1) * (q + 1) := Nat.pow_two _
  rw [cld_len, show fb_sm (fun a => fb_ct (fun v => gdb q P ((q + 1) ^ 2 + a) v) ((q + 1) ^ 2)) ((q + 1) ^ 2) = fb_sm (fun a => fb_ct (fun v => gdb q P ((q + 1) ^ 2 + a) v) ((q + 1) ^ 2)) ((q + 1) * (q + 1)) by rw [← hp2], sm_blk, ← sm_mulL]
  have hall : ∀ c0 c1 : Fin (q + 1), hf * c1 + hf * c1 = c1 := fun _ c1 => by
    have : hf * c1 + hf * c1 = (hf + hf) * c1 := by grind
    rw [this, ehf]; grind
  have s1 : fb_sm (fun i => 2 * fb_sm (fun j => fb_ct (fun v => gdb q P ((q + 1) ^ 2 + (i * (q + 1) + j)) v) ((q + 1) ^ 2)) (q + 1)) (q + 1) ≤ sF (fun c1 : Fin (q + 1) => sF (fun c0 : Fin (q + 1) => sF (fun dd => if dd * dd = (hf * c1) * (hf * c1) - c0 then Gf P (hf * c1) dd else 0) + 4 * Jf P (hf * c1) ((hf * c1) * (hf * c1) - c0))) := by
    refine fb_sm_le (fun i hi => ?_)
    rw [← sm_mulL]
    refine fb_sm_le (fun j hj => ?_)
    exact u_bd hq hP hb hi hj (hall 0 _)
  refine Nat.le_trans s1 (Nat.le_of_eq ?_)
  have s2 : ∀ c1 : Fin (q + 1), sF (fun c0 : Fin (q + 1) => sF (fun dd => if dd * dd = (hf * c1) * (hf * c1) - c0 then Gf P (hf * c1) dd else 0) + 4 * Jf P (hf * c1) ((hf * c1) * (hf * c1) - c0)) = sF (fun D => sF (fun dd => if dd * dd = D then Gf P (hf * c1) dd else 0) + 4 * Jf P (hf * c1) D) := fun c1 => by
    exact sF_perm (s := fun c0 : Fin (q + 1) => (hf * c1) * (hf * c1) - c0) (fun a b e => by
      have e : (hf * c1) * (hf * c1) - a = (hf * c1) * (hf * c1) - b := e
      generalize (hf * c1) * (hf * c1) = x at *
      grind) (fun D => sF (fun dd => if dd * dd = D then Gf P (hf * c1) dd else 0) + 4 * Jf P (hf * c1) D)
  rw [sF_cong s2]
  rw [sF_perm (s := fun c1 : Fin (q + 1) => hf * c1) (fun a b e => by
    have e : hf * a = hf * b := e
    have h1 := hall 0 a
    have h2 := hall 0 b
    rw [e] at h1
    exact h1.symm.trans h2) (fun h => sF (fun D => sF (fun dd => if dd * dd = D then Gf P h dd else 0) + 4 * Jf P h D))]
  have s3 : ∀ h : Fin (q + 1), sF (fun D => sF (fun dd => if dd * dd = D then Gf P h dd else 0) + 4 * Jf P h D) = sF (fun dd => Gf P h dd) + 4 * sF (fun D => Jf P h D) := fun h => by
    rw [sF_add, D_sum, sF_mulL]
  rw [sF_cong s3, sF_add, G_sum hq, sF_mulL]
  rfl
theorem N_1 {q : Nat} (hq : isP q) {P : PS q} (hP : dl P 7) : (cld q P 1).length ≤ Af P := by
  rw [cld_len]
  have e1 : (q + 1) ^ 1 = q + 1 := Nat.pow_one _
  rw [e1]
  have s1 : fb_sm (fun a => fb_ct (fun v => gdb q P (q + 1 + a) v) (q + 1)) (q + 1) ≤ sF (fun c : Fin (q + 1) => nr (pv P (-c))) := by
    refine fb_sm_le (fun c hc => ?_)
    refine ct_inj (g1 := fun v => v) (fun v hv hg => ⟨hv, decide_eq_true ?_⟩) (fun v w _ _ _ _ e => e)
    exact (gd_1 hq hP hc hv (of_gdb hg)).symm
  refine Nat.le_trans s1 (Nat.le_of_eq ?_)
  exact sF_perm (s := fun c : Fin (q + 1) => -c) (fun a b e => by
    have e : -a = -b := e
    grind) (fun a => nr (pv P a))
theorem N_0 {q : Nat} (P : PS q) : (cld q P 0).length ≤ 1 := by
  rw [cld_len, Nat.pow_zero]
  show 0 + fb_ct (fun v => gdb q P (1 + 0) v) 1 ≤ 1
  have := fb_ct_le (fun v => gdb q P (1 + 0) v) 1
  omega
theorem N_all {q : Nat} (hq : isP q) {P : PS q} (hP : dl P 7) (hb : bzt P) : 2 * (cls q P 2).length ≤ 2 + 2 * Af P + Af P * Af P + 4 * If P := by
  rw [cls_len, fb_sm_succ, fb_sm_succ, fb_sm_succ]
  have h0 := N_0 P
  have h1 := N_1 hq hP
  have h2 := N_2 hq hP hb
  have e0 : fb_sm (fun d => (cld q P d).length) 0 = 0 := rfl
  omega
theorem N_g1 {q : Nat} (hq : isP q) {P : PS q} (hP : dl P 7) : (cls q P 1).length ≤ 1 + Af P := by
  rw [cls_len, fb_sm_succ, fb_sm_succ]
  have h0 := N_0 P
  have h1 := N_1 hq hP
  have e0 : fb_sm (fun d => (cld q P d).length) 0 = 0 := rfl
  omega
theorem A_bd {q : Nat} (hq : isP q) (P : PS q) : Af P ≤ (q + 1) * 2 := sF_bd (fun a => ((nr_tab hq).1 _).1)
theorem I_bd {q : Nat} (hq : isP q) (P : PS q) : If P ≤ (q + 1) * (q / 2) := by
  refine sF_bd (fun h => Nat.le_trans (sF_le (fun D => ?_)) (nr_tab hq).2.1)
  unfold Jf
  by_cases c : nr D = 0
  · rw [if_pos c]
    by_cases c2 : nr D = 0 ∧ 0 < nr ((ph P h D).1 * (ph P h D).1 - (ph P h D).2 * (ph P h D).2 * D)
    · rw [if_pos c2]; exact Nat.le_refl _
    · rw [if_neg c2]; omega
  · rw [if_neg (fun z => c z.1)]; omega
