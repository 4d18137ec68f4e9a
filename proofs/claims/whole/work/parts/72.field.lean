/-! the fields, said of numbers -/
def fl (q n : Nat) : Prop := isP q ∧ 1 ≤ n ∧ n ≤ nfd q
noncomputable def ml (q n a b : Nat) : Nat := nu q n (fm (fM q n) (pn q a) (pn q b))
noncomputable def pw (q n a e : Nat) : Nat := nu q n (fpw (fM q n) (pn q a) e)
theorem fl_M {q n : Nat} (h : fl q n) : isM (fM q n) n := fM_is h.1 h.2.1 h.2.2
theorem fl_sz {q n : Nat} (h : fl q n) : 3 ≤ (q + 1) ^ n ∧ (q + 1) ^ n ≤ 343 ∧ (q + 1) ^ n < 2 ^ 30 := by
  obtain ⟨a1, a2, a3, a4, a5⟩ := fsz h.1 h.2.1 h.2.2
  exact ⟨a1, a2, by omega⟩
theorem ml_lt (q n a b : Nat) : ml q n a b < (q + 1) ^ n := nu_lt _ _
theorem pw_lt (q n a e : Nat) : pw q n a e < (q + 1) ^ n := nu_lt _ _
theorem pn_ml {q n a b : Nat} (h : fl q n) (ha : a < (q + 1) ^ n) (hb : b < (q + 1) ^ n) : pn q (ml q n a b) = fm (fM q n) (pn q a) (pn q b) :=
  pn_nu (fm_dl h.1 (fl_M h) (pn_dl ha) (pn_dl hb))
theorem pn_pw {q n a : Nat} (h : fl q n) (ha : a < (q + 1) ^ n) (e : Nat) : pn q (pw q n a e) = fpw (fM q n) (pn q a) e :=
  pn_nu (fpw_dl h.1 (fl_M h) (pn_dl ha) e)
theorem ml_comm (q n a b : Nat) : ml q n a b = ml q n b a := by unfold ml; rw [fm_comm]
theorem ml_assoc {q n a b c : Nat} (h : fl q n) (ha : a < (q + 1) ^ n) (hb : b < (q + 1) ^ n) (hc : c < (q + 1) ^ n) : ml q n (ml q n a b) c = ml q n a (ml q n b c) := by
  show nu q n (fm _ (pn q (ml q n a b)) _) = nu q n (fm _ _ (pn q (ml q n b c)))
  rw [pn_ml h ha hb, pn_ml h hb hc, fm_assoc h.1 (fl_M h) (pn_dl ha) (pn_dl hb) (pn_dl hc)]
theorem ml_one {q n a : Nat} (h : fl q n) (ha : a < (q + 1) ^ n) : ml q n a 1 = a := by
  unfold ml
  rw [pn_1 h.1, fm_one h.1 (fl_M h) (pn_dl ha), nu_pn ha]
theorem pn_0 (q : Nat) : pn q 0 = pz := by
  funext i
  apply Fin.ext
  rw [pn_val, Nat.zero_div]; rfl
theorem ml_zero {q n : Nat} (h : fl q n) (a : Nat) : ml q n a 0 = 0 := by
  unfold ml
  rw [pn_0, fm_zero h.1 (fl_M h)]
  exact nu_zero (fun _ _ => rfl)
theorem ml_zeroL {q n : Nat} (h : fl q n) (a : Nat) : ml q n 0 a = 0 := by rw [ml_comm, ml_zero h]
theorem pw_0 {q n : Nat} (h : fl q n) (a : Nat) : pw q n a 0 = 1 := by
  have := fl_sz h
  show nu q n (pl_c 1) = 1
  rw [← pn_1 h.1, nu_pn (by omega)]
theorem pw_s {q n a : Nat} (h : fl q n) (ha : a < (q + 1) ^ n) (e : Nat) : pw q n a (e + 1) = ml q n (pw q n a e) a := by
  unfold ml
  rw [pn_pw h ha]; rfl
theorem pw_add {q n a : Nat} (h : fl q n) (ha : a < (q + 1) ^ n) (i j : Nat) : pw q n a (i + j) = ml q n (pw q n a i) (pw q n a j) := by
  unfold ml
  rw [pn_pw h ha, pn_pw h ha, ← fpw_add h.1 (fl_M h) (pn_dl ha)]; rfl
theorem pw_mul {q n a : Nat} (h : fl q n) (ha : a < (q + 1) ^ n) (i j : Nat) : pw q n a (i * j) = pw q n (pw q n a i) j := by
  show nu q n (fpw _ (pn q a) (i * j)) = nu q n (fpw _ (pn q (pw q n a i)) j)
  rw [pn_pw h ha, fpw_mul h.1 (fl_M h) (pn_dl ha)]
theorem pw_1 {q n a : Nat} (h : fl q n) (ha : a < (q + 1) ^ n) : pw q n a 1 = a := by
  rw [pw_s h ha 0, pw_0 h, ml_comm, ml_one h ha]
theorem pw_z {q n : Nat} (h : fl q n) {e : Nat} (he : 0 < e) : pw q n 0 e = 0 := by
  have := fl_sz h
  obtain ⟨k, rfl⟩ : ∃ k, e = k + 1 := ⟨e - 1, by omega⟩
  rw [pw_s h (by omega), ml_zero h]
/-- a number whose powers are all the numbers but 0 -/
def gnr (q n g : Nat) : Prop := g < (q + 1) ^ n ∧ pw q n g ((q + 1) ^ n - 1) = 1 ∧ (∀ i j, i < (q + 1) ^ n - 1 → j < (q + 1) ^ n - 1 → pw q n g i = pw q n g j → i = j) ∧ (∀ i, pw q n g i ≠ 0) ∧ ∀ a, 0 < a → a < (q + 1) ^ n → ∃ i, i < (q + 1) ^ n - 1 ∧ pw q n g i = a
theorem pw_mod {q n g N : Nat} (h : fl q n) (hg : g < (q + 1) ^ n) (hN : pw q n g N = 1) (e : Nat) : pw q n g e = pw q n g (e % N) := by
  have h1 : fpw (fM q n) (pn q g) N = pl_c 1 := by rw [← pn_pw h hg, hN, pn_1 h.1]
  unfold pw
  rw [fpw_mod h.1 (fl_M h) (pn_dl hg) h1 e]
theorem gnr_of {q n : Nat} (h : fl q n) {G : PS q} (hd : dl G n) (hG : isG (fM q n) G ((q + 1) ^ n - 1)) : gnr q n (nu q n G) ∧ ∀ e, nu q n (fpw (fM q n) G e) = pw q n (nu q n G) e := by
  have hs := fl_sz h
  have hg := nu_lt n G
  have eG : pn q (nu q n G) = G := pn_nu hd
  have epw : ∀ e, nu q n (fpw (fM q n) G e) = pw q n (nu q n G) e := fun e => by unfold pw; rw [eG]
  have hN : pw q n (nu q n G) ((q + 1) ^ n - 1) = 1 := by
    rw [← epw, hG.2.1, ← pn_1 h.1, nu_pn (by omega)]
  have hinj : ∀ i j, i < (q + 1) ^ n - 1 → j < (q + 1) ^ n - 1 → pw q n (nu q n G) i = pw q n (nu q n G) j → i = j := fun i j hi hj e => by
    refine isG_inj h.1 (fl_M h) hd hG hi hj ?_
    rw [← pn_nu (fpw_dl h.1 (fl_M h) hd i), ← pn_nu (fpw_dl h.1 (fl_M h) hd j), epw, epw, e]
  have hne : ∀ i, pw q n (nu q n G) i ≠ 0 := fun i z => by
    rw [pw_mod h hg hN i, ← epw] at z
    refine isG_ne h.1 (fl_M h) hd hG (Nat.mod_lt i (show 0 < (q + 1) ^ n - 1 by omega)) ?_
    rw [← pn_nu (fpw_dl h.1 (fl_M h) hd (i % ((q + 1) ^ n - 1))), z, pn_0]
  refine ⟨⟨hg, hN, hinj, hne, fun a a0 a1 => ?_⟩, epw⟩
  obtain ⟨i, hi, e⟩ := fb_onto (n := (q + 1) ^ n - 1) (f := fun i => pw q n (nu q n G) i - 1) (fun i hi => by
    have := pw_lt q n (nu q n G) i
    have := hne i
    show pw q n (nu q n G) i - 1 < _
    omega) (fun i j hij hj e => by
    have e : pw q n (nu q n G) i - 1 = pw q n (nu q n G) j - 1 := e
    have h1 := hne i
    have h2 := hne j
    have := hinj i j (by omega) hj (by omega)
    omega) (y := a - 1) (by omega)
  refine ⟨i, hi, ?_⟩
  have e : pw q n (nu q n G) i - 1 = a - 1 := e
  have := hne i
  omega
theorem gnr_ex {q n : Nat} (h : fl q n) : ∃ g, gnr q n g := by
  obtain ⟨g, g1, g2, g3, g4⟩ := isG_ex h.1 h.2.1 h.2.2
  exact ⟨_, (gnr_of h (pn_dl g2) g4).1⟩
/-- no divisors of 0 -/
theorem ml_ne {q n a b : Nat} (h : fl q n) (ha : a < (q + 1) ^ n) (hb : b < (q + 1) ^ n) (a0 : a ≠ 0) (b0 : b ≠ 0) : ml q n a b ≠ 0 := by
  obtain ⟨g, h1, h2, h3, h4, h5⟩ := gnr_ex h
  obtain ⟨i, hi, e⟩ := h5 a (by omega) ha
  obtain ⟨j, hj, e2⟩ := h5 b (by omega) hb
  rw [← e, ← e2, ← pw_add h h1]
  exact h4 _
noncomputable def cit {α : Type} (P : Prop) (a b : α) : α := @ite α P (Classical.propDecidable P) a b
theorem cit_pos {α : Type} {P : Prop} {a b : α} (h : P) : cit P a b = a := by unfold cit; exact if_pos h
theorem cit_neg {α : Type} {P : Prop} {a b : α} (h : ¬ P) : cit P a b = b := by unfold cit; exact if_neg h
/-- THE SIGN -/
noncomputable def sg (q n a : Nat) : Int32 := if a = 0 then 0 else cit (∃ b, b < (q + 1) ^ n ∧ ml q n b b = a) 1 (-1)
theorem sz_odd {q n : Nat} (h : isP q) : (q + 1) ^ n % 2 = 1 := by
  induction n with
  | zero => rfl
  | succ n ih =>
    rw [Nat.pow_succ, Nat.mul_mod, ih]
    unfold isP at h
    have : (q + 1) % 2 = 1 := by omega
    rw [this]
theorem sg_pw {q n g : Nat} (h : fl q n) (hg : gnr q n g) {i : Nat} (hi : i < (q + 1) ^ n - 1) : sg q n (pw q n g i) = if i % 2 = 0 then 1 else -1 := by
  obtain ⟨h1, h2, h3, h4, h5⟩ := hg
  have hs := fl_sz h
  have ho := sz_odd (n := n) h.1
  unfold sg
  rw [if_neg (h4 i)]
  by_cases c : i % 2 = 0
  · rw [if_pos c, cit_pos]
    refine ⟨pw q n g (i / 2), pw_lt _ _ _ _, ?_⟩
    rw [← pw_add h h1]
    congr 1; omega
  · rw [if_neg c, cit_neg]
    rintro ⟨b, hb, e⟩
    by_cases b0 : b = 0
    · rw [b0, ml_zero h] at e
      exact h4 i e.symm
    · obtain ⟨j, hj, ej⟩ := h5 b (by omega) hb
      rw [← ej, ← pw_add h h1, pw_mod h h1 h2] at e
      have := h3 _ i (Nat.mod_lt _ (by omega)) hi e
      rcases Nat.lt_or_ge (j + j) ((q + 1) ^ n - 1) with w | w
      · rw [Nat.mod_eq_of_lt w] at this; omega
      · rw [Nat.mod_eq_sub_mod w, Nat.mod_eq_of_lt (by omega)] at this; omega
/-- the sum of two polynomials, of numbers -/
def ad (q a b : Nat) : Nat := nu q 18 (padd (pn q a) (pn q b))
