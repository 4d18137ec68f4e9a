/-! numbers of a field: polynomials by M -/
theorem prem_add {q n m k : Nat} (hq : isP q) {M S r : PS q} (hM : dl M (n + 1)) (hM0 : M n ≠ 0) (hS : dl S m) (hr : dl r k) : prem (padd (pl_mul S M) r) M = prem r M := by
  obtain ⟨-, h1, h2, h3⟩ := pqr_is hq hr hM hM0
  refine (pqr_at hq (a := padd (pl_mul S M) r) (b := M) (Q := padd S (pquo r M)) (r := prem r M) ⟨n, m + (k - n), hM, hM0, dl_add (dl_mono hS (by omega)) (dl_mono h1 (by omega)), h2, ?_⟩).2
  rw [pm_addr]
  funext i
  have h4 := congrFun h3 i
  have h4 : r i = pl_mul (pquo r M) M i + prem r M i := h4
  show pl_mul S M i + r i = pl_mul S M i + pl_mul (pquo r M) M i + prem r M i
  rw [h4]; grind
theorem prem_mulL {q n m k : Nat} (hq : isP q) {M x y : PS q} (hM : dl M (n + 1)) (hM0 : M n ≠ 0) (hx : dl x m) (hy : dl y k) : prem (pl_mul (prem x M) y) M = prem (pl_mul x y) M := by
  obtain ⟨-, h1, h2, h3⟩ := pqr_is hq hx hM hM0
  have e : pl_mul x y = padd (pl_mul (pl_mul (pquo x M) y) M) (pl_mul (prem x M) y) := by
    have e1 : pl_mul x y = pl_mul (padd (pl_mul (pquo x M) M) (prem x M)) y := by rw [← h3]
    rw [e1, pm_addr, pl_mul_assoc, pl_mul_comm M y, ← pl_mul_assoc]
  rw [e, prem_add hq hM hM0 (dl_mul h1 hy) (dl_mul h2 hy)]
theorem prem_mulR {q n m k : Nat} (hq : isP q) {M x y : PS q} (hM : dl M (n + 1)) (hM0 : M n ≠ 0) (hx : dl x m) (hy : dl y k) : prem (pl_mul x (prem y M)) M = prem (pl_mul x y) M := by
  rw [pl_mul_comm x, prem_mulL hq hM hM0 hy hx, pl_mul_comm]
/-- M of degree n, with 1 as its first coefficient -/
def isM {q : Nat} (M : PS q) (n : Nat) : Prop := dl M (n + 1) ∧ M n ≠ 0 ∧ 1 ≤ n
noncomputable def fm {q : Nat} (M a b : PS q) : PS q := prem (pl_mul a b) M
theorem fm_dl {q n m k : Nat} (hq : isP q) {M a b : PS q} (hM : isM M n) (ha : dl a m) (hb : dl b k) : dl (fm M a b) n := (pqr_is hq (dl_mul ha hb) hM.1 hM.2.1).2.2.1
theorem fm_comm {q : Nat} (M a b : PS q) : fm M a b = fm M b a := by unfold fm; rw [pl_mul_comm]
theorem fm_assoc {q n m k l : Nat} (hq : isP q) {M a b c : PS q} (hM : isM M n) (ha : dl a m) (hb : dl b k) (hc : dl c l) : fm M (fm M a b) c = fm M a (fm M b c) := by
  unfold fm
  rw [prem_mulL hq hM.1 hM.2.1 (dl_mul ha hb) hc, prem_mulR hq hM.1 hM.2.1 ha (dl_mul hb hc), pl_mul_assoc]
theorem pm_one {q : Nat} (f : PS q) : pl_mul f (pl_c 1) = f := by
  rw [pl_mul_c]; funext n; grind
theorem fm_one {q n : Nat} (hq : isP q) {M a : PS q} (hM : isM M n) (ha : dl a n) : fm M a (pl_c 1) = a := by
  unfold fm
  rw [pm_one, (prem_small hq hM.1 hM.2.1 ha).2]
theorem fm_zero {q n : Nat} (hq : isP q) {M : PS q} (hM : isM M n) (a : PS q) : fm M a pz = pz := by
  unfold fm
  rw [pm_zr, (prem_small (a := pz) hq hM.1 hM.2.1 (fun _ _ => rfl)).2]
noncomputable def fpw {q : Nat} (M a : PS q) : Nat → PS q
  | 0 => pl_c 1
  | e + 1 => fm M (fpw M a e) a
theorem fpw_dl {q n : Nat} (hq : isP q) {M a : PS q} (hM : isM M n) (ha : dl a n) : ∀ e, dl (fpw M a e) n
  | 0 => dl_mono (pc_dl 1) hM.2.2
  | e + 1 => fm_dl hq hM (fpw_dl hq hM ha e) ha
theorem fpw_add {q n : Nat} (hq : isP q) {M a : PS q} (hM : isM M n) (ha : dl a n) (i : Nat) : ∀ j, fpw M a (i + j) = fm M (fpw M a i) (fpw M a j)
  | 0 => (fm_one hq hM (fpw_dl hq hM ha i)).symm
  | j + 1 => by
    show fm M (fpw M a (i + j)) a = fm M (fpw M a i) (fm M (fpw M a j) a)
    rw [fpw_add hq hM ha i j, fm_assoc hq hM (fpw_dl hq hM ha i) (fpw_dl hq hM ha j) ha]
theorem fpw_onepow {q n : Nat} (hq : isP q) {M : PS q} (hM : isM M n) : ∀ e, fpw M (pl_c 1) e = pl_c 1
  | 0 => rfl
  | e + 1 => by
    show fm M (fpw M (pl_c 1) e) (pl_c 1) = pl_c 1
    rw [fpw_onepow hq hM e, fm_one hq hM (dl_mono (pc_dl 1) hM.2.2)]
theorem fpw_mul {q n : Nat} (hq : isP q) {M a : PS q} (hM : isM M n) (ha : dl a n) (i : Nat) : ∀ j, fpw M a (i * j) = fpw M (fpw M a i) j
  | 0 => rfl
  | j + 1 => by
    show fpw M a (i * j + i) = fm M (fpw M (fpw M a i) j) (fpw M a i)
    rw [fpw_add hq hM ha, fpw_mul hq hM ha i j]
/-- powers go round: with a to the N being 1 only e by N counts -/
theorem fpw_mod {q n N : Nat} (hq : isP q) {M a : PS q} (hM : isM M n) (ha : dl a n) (hN : fpw M a N = pl_c 1) (e : Nat) : fpw M a e = fpw M a (e % N) := by
  have h1 : fpw M a (N * (e / N)) = pl_c 1 := by rw [fpw_mul hq hM ha, hN, fpw_onepow hq hM]
  have h2 := fpw_add hq hM ha (N * (e / N)) (e % N)
  rw [Nat.div_add_mod, h1, fm_comm, fm_one hq hM (fpw_dl hq hM ha _)] at h2
  exact h2
/-- what comes to 1 may be taken away -/
theorem fm_cancel {q n : Nat} (hq : isP q) {M a b x y : PS q} (hM : isM M n) (ha : dl a n) (hb : dl b n) (hx : dl x n) (hy : dl y n) (h1 : fm M a b = pl_c 1) (h : fm M a x = fm M a y) : x = y := by
  have e1 : fm M (fm M b a) x = x := by rw [fm_comm M b a, h1, fm_comm, fm_one hq hM hx]
  have e2 : fm M (fm M b a) y = y := by rw [fm_comm M b a, h1, fm_comm, fm_one hq hM hy]
  rw [← e1, ← e2, fm_assoc hq hM hb ha hx, fm_assoc hq hM hb ha hy, h]
/-- a has order N: 1 comes at N and not before -/
def isG {q : Nat} (M a : PS q) (N : Nat) : Prop := 1 ≤ N ∧ fpw M a N = pl_c 1 ∧ ∀ j, 0 < j → j < N → fpw M a j ≠ pl_c 1
theorem isG_inj {q n N : Nat} (hq : isP q) {M a : PS q} (hM : isM M n) (ha : dl a n) (hG : isG M a N) {i j : Nat} (hi : i < N) (hj : j < N) (h : fpw M a i = fpw M a j) : i = j := by
  have key : ∀ i j, i < j → j < N → fpw M a i = fpw M a j → False := by
    intro i j hij hj h
    have e1 := fpw_add hq hM ha i (j - i)
    rw [show i + (j - i) = j by omega, ← h] at e1
    have e2 := fpw_add hq hM ha (N - i) i
    rw [show N - i + i = N by omega, hG.2.1] at e2
    have e3 : fm M (fpw M a i) (fpw M a (N - i)) = pl_c 1 := by rw [fm_comm]; exact e2.symm
    have e4 : fm M (fpw M a i) (pl_c 1) = fm M (fpw M a i) (fpw M a (j - i)) := by rw [fm_one hq hM (fpw_dl hq hM ha i)]; exact e1
    have := fm_cancel hq hM (fpw_dl hq hM ha i) (fpw_dl hq hM ha _) (dl_mono (pc_dl 1) hM.2.2) (fpw_dl hq hM ha _) e3 e4
    exact hG.2.2 (j - i) (by omega) (by omega) this.symm
  rcases Nat.lt_trichotomy i j with w | w | w
  · exact (key i j w hj h).elim
  · exact w
  · exact (key j i w hi h.symm).elim
theorem one_ne {q : Nat} (hq : isP q) : (pl_c 1 : PS q) ≠ pz := fun z => by
  have := congrFun z 0
  have hl := isP_lo hq
  have h2 : (1 : Fin (q + 1)) = 0 := this
  have h3 := congrArg Fin.val h2
  have e : (1 : Fin (q + 1)).val = 1 := by show 1 % (q + 1) = 1; rw [Nat.mod_eq_of_lt (by omega)]
  rw [e] at h3
  exact absurd h3 (by show ¬ 1 = 0; omega)
theorem isG_ne {q n N : Nat} (hq : isP q) {M a : PS q} (hM : isM M n) (ha : dl a n) (hG : isG M a N) {i : Nat} (hi : i < N) : fpw M a i ≠ pz := fun z => by
  have e2 := fpw_add hq hM ha (N - i) i
  rw [show N - i + i = N by omega, hG.2.1, z, fm_zero hq hM] at e2
  exact one_ne hq e2
