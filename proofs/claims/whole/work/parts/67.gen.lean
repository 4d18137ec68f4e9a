/-! a number whose powers are all the numbers but 0, by computation -/
def frc {α : Type} (a : Nat) (g : Nat → α) : α := @Nat.rec (fun _ => α) (g 0) (fun n _ => g (n + 1)) a
theorem frc_eq {α : Type} (a : Nat) (g : Nat → α) : frc a g = g a := by cases a <;> rfl
def cml (q n M a b : Nat) : Nat := nu q n (crm n (pn q M) n (pl_mul (pn q a) (pn q b)))
theorem cml_ok {q n M a b : Nat} (hq : isP q) (hM1 : (q + 1) ^ n ≤ M) (hM2 : M < 2 * (q + 1) ^ n) (hn : 1 ≤ n) (ha : a < (q + 1) ^ n) (hb : b < (q + 1) ^ n) : pn q (cml q n M a b) = fm (pn q M) (pn q a) (pn q b) ∧ cml q n M a b < (q + 1) ^ n ∧ isM (pn q M) n := by
  obtain ⟨m1, m2⟩ := pn_mon hq hM1 hM2
  have h0 : pn q M n ≠ 0 := fun z => by
    rw [m2] at z
    exact one_ne hq (funext fun i => by show (if i = 0 then (1 : Fin (q + 1)) else 0) = 0; split; exact z; rfl)
  have hM : isM (pn q M) n := ⟨m1, h0, hn⟩
  have hd : dl (pl_mul (pn q a) (pn q b)) (n + n) := dl_mono (dl_mul (pn_dl ha) (pn_dl hb)) (by omega)
  have e : cml q n M a b = nu q n (fm (pn q M) (pn q a) (pn q b)) := by
    unfold cml fm
    rw [crm_eq hq m1 m2 n _ hd]
  refine ⟨?_, nu_lt _ _, hM⟩
  rw [e, pn_nu (fm_dl hq hM (pn_dl ha) (pn_dl hb))]
def cpw (q n M : Nat) : Nat → Nat → Nat → Nat
  | 0, _, _ => 1
  | f + 1, a, e => if e = 0 then 1 else frc (cml q n M a a) (fun s => frc (cpw q n M f s (e / 2)) (fun h => if e % 2 = 1 then cml q n M h a else h))
theorem cpw_ok {q n M : Nat} (hq : isP q) (hM1 : (q + 1) ^ n ≤ M) (hM2 : M < 2 * (q + 1) ^ n) (hn : 1 ≤ n) : ∀ (f a e : Nat), a < (q + 1) ^ n → e < 2 ^ f → pn q (cpw q n M f a e) = fpw (pn q M) (pn q a) e ∧ cpw q n M f a e < (q + 1) ^ n := by
  have hl := isP_lo hq
  have h1 : 1 < (q + 1) ^ n := Nat.one_lt_pow (by omega) (by omega)
  intro f
  induction f with
  | zero =>
    intro a e ha he
    have : e = 0 := by have : e < 1 := he; omega
    subst this
    exact ⟨pn_1 hq, h1⟩
  | succ f ih =>
    intro a e ha he
    unfold cpw
    rw [frc_eq, frc_eq]
    by_cases e0 : e = 0
    · rw [if_pos e0, e0]
      exact ⟨pn_1 hq, h1⟩
    · rw [if_neg e0]
      obtain ⟨s1, s2, hM⟩ := cml_ok hq hM1 hM2 hn ha ha
      have he2 : e / 2 < 2 ^ f := by rw [Nat.pow_succ] at he; omega
      obtain ⟨p1, p2⟩ := ih _ (e / 2) s2 he2
      have da := pn_dl ha
      have sq : fm (pn q M) (pn q a) (pn q a) = fpw (pn q M) (pn q a) 2 := by
        show _ = fm (pn q M) (fm (pn q M) (pl_c 1) (pn q a)) (pn q a)
        rw [fm_comm (pn q M) (pl_c 1), fm_one hq hM da]
      rw [s1, sq, ← fpw_mul hq hM da] at p1
      by_cases e1 : e % 2 = 1
      · rw [if_pos e1]
        obtain ⟨r1, r2, -⟩ := cml_ok hq hM1 hM2 hn p2 ha
        refine ⟨?_, r2⟩
        rw [r1, p1]
        have : e = 2 * (e / 2) + 1 := by omega
        exact (congrArg (fpw (pn q M) (pn q a)) this).symm
      · rw [if_neg e1]
        refine ⟨?_, p2⟩
        rw [p1]
        congr 1; omega
def Gnu (q n : Nat) : Nat := if q = 2 then (if n = 1 then 2 else if n = 2 then 4 else 3) else if q = 4 then (if n = 1 then 2 else if n = 2 then 6 else 9) else if q = 6 then (if n = 1 then 3 else if n = 2 then 9 else 22) else if q = 10 then (if n = 1 then 2 else 15) else (if n = 1 then 2 else 15)
/-- the prime divisors of the units -/
def Gpr : List Nat := [2, 3, 5, 7, 11, 13, 19, 31]
theorem Gnu_ok {q : Nat} (hq : isP q) : ∀ n, n < 6 → 1 ≤ n → n ≤ nfd q → (Gnu q n < (q + 1) ^ n ∧ 1 ≤ Gnu q n ∧ cpw q n (Mnu q n) 9 (Gnu q n) ((q + 1) ^ n - 1) = 1 ∧ (Gpr.all (fun r => decide (((q + 1) ^ n - 1) % r = 0 → cpw q n (Mnu q n) 9 (Gnu q n) (((q + 1) ^ n - 1) / r) ≠ 1)) = true)) := by
  rcases hq with rfl | rfl | rfl | rfl | rfl <;> decide +kernel
theorem Gdiv_ok {q : Nat} (hq : isP q) : ∀ n, n < 6 → 1 ≤ n → n ≤ nfd q → (List.range ((q + 1) ^ n - 1)).all (fun d => d == 0 || !(((q + 1) ^ n - 1) % d == 0) || Gpr.any (fun r => ((q + 1) ^ n - 1) % r == 0 && (((q + 1) ^ n - 1) / r) % d == 0)) = true := by
  rcases hq with rfl | rfl | rfl | rfl | rfl <;> decide +kernel
theorem isG_ex {q n : Nat} (hq : isP q) (hn1 : 1 ≤ n) (hn : n ≤ nfd q) : ∃ g, 1 ≤ g ∧ g < (q + 1) ^ n ∧ isM (pn q (Mnu q n)) n ∧ isG (pn q (Mnu q n)) (pn q g) ((q + 1) ^ n - 1) := by
  have hl := isP_lo hq
  obtain ⟨-, f1, f2⟩ := nfd_ok hq
  obtain ⟨m1, m2, m3, -, -⟩ := Mnu_ok hq n (by omega) hn1 hn
  obtain ⟨g1, g2, g3, g4⟩ := Gnu_ok hq n (by omega) hn1 hn
  have hM : isM (pn q (Mnu q n)) n := (cml_ok hq m1 m2 hn1 g1 g1).2.2
  have hp1 : 1 < (q + 1) ^ n := Nat.one_lt_pow (by omega) (by omega)
  have hd := pn_dl g1
  refine ⟨Gnu q n, g2, g1, hM, by omega, ?_, ?_⟩
  · rw [← (cpw_ok hq m1 m2 hn1 9 (Gnu q n) _ g1 (by omega)).1, g3, pn_1 hq]
  · intro j hj0 hj hj1
    -- the least such j divides the units
    have hN : fpw (pn q (Mnu q n)) (pn q (Gnu q n)) ((q + 1) ^ n - 1) = pl_c 1 := by
      rw [← (cpw_ok hq m1 m2 hn1 9 (Gnu q n) _ g1 (by omega)).1, g3, pn_1 hq]
    obtain ⟨d, ⟨d1, d2⟩, d3⟩ := pk_least (fun j => 0 < j ∧ fpw (pn q (Mnu q n)) (pn q (Gnu q n)) j = pl_c 1) ⟨j, hj0, hj1⟩
    have hdj : d ≤ j := by
      rcases Nat.lt_or_ge j d with w | w
      · exact absurd ⟨hj0, hj1⟩ (d3 j w)
      · exact w
    have hmod : ((q + 1) ^ n - 1) % d = 0 := by
      rcases Nat.eq_zero_or_pos (((q + 1) ^ n - 1) % d) with z | z
      · exact z
      · exfalso
        have := fpw_mod hq hM hd d2 ((q + 1) ^ n - 1)
        rw [hN] at this
        exact d3 _ (Nat.mod_lt _ d1) ⟨z, this.symm⟩
    have hall := List.all_eq_true.mp (Gdiv_ok hq n (by omega) hn1 hn) d (List.mem_range.mpr (by omega))
    have b0 : (d == 0) = false := by simp; omega
    have b1 : (((q + 1) ^ n - 1) % d == 0) = true := by rw [hmod]; rfl
    rw [b0, b1, Bool.not_true, Bool.or_false, Bool.false_or] at hall
    obtain ⟨r, r1, r4⟩ := List.any_eq_true.mp hall
    rw [Bool.and_eq_true, beq_iff_eq, beq_iff_eq] at r4
    obtain ⟨r2, r3⟩ := r4
    rw [List.all_eq_true] at g4
    have g5 := of_decide_eq_true (g4 r r1) r2
    apply g5
    have e1 := fpw_mod hq hM hd d2 (((q + 1) ^ n - 1) / r)
    rw [r3] at e1
    have e2 : fpw (pn q (Mnu q n)) (pn q (Gnu q n)) (((q + 1) ^ n - 1) / r) = pl_c 1 := e1
    obtain ⟨c1, c2⟩ := cpw_ok hq m1 m2 hn1 9 (Gnu q n) (((q + 1) ^ n - 1) / r) g1 (Nat.lt_of_le_of_lt (Nat.div_le_self _ _) (by omega))
    rw [e2, ← pn_1 hq] at c1
    exact pn_inj c2 hp1 c1
