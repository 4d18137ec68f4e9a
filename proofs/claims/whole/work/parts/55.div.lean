/-! division of polynomials over a field -/
theorem fin_dom {q : Nat} (hq : isP q) {a b : Fin (q + 1)} (h : a * b = 0) : a = 0 ∨ b = 0 := by
  by_cases ha : a = 0
  · exact Or.inl ha
  · right
    have e := fiv_mul hq ha
    have : b = (a * b) * fiv q a := by grind
    rw [this, h]; grind
theorem mul_top {q m n : Nat} {f g : PS q} (hf : dl f (m + 1)) (hg : dl g (n + 1)) : pl_mul f g (m + n) = f m * g n := by
  show ps_ (fun i => f i * g (m + n - i)) (m + n + 1) = f m * g n
  rw [ps_one (i := m) (by omega) (fun k hk hne => by
    show f k * g (m + n - k) = 0
    rcases Nat.lt_or_ge m k with h | h
    · rw [hf k (by omega)]; grind
    · rw [hg (m + n - k) (by omega)]; grind)]
  show f m * g (m + n - m) = f m * g n
  rw [show m + n - m = n by omega]
theorem hd_ex {q m : Nat} {f : PS q} (hf : dl f m) : ∃ n, hd f n ∧ (f n ≠ 0 ∨ f = fun _ => 0) := by
  induction m with
  | zero => exact ⟨0, ⟨dl_mono hf (by omega), Or.inl rfl⟩, Or.inr (funext fun i => hf i (by omega))⟩
  | succ m ih =>
    by_cases h : f m = 0
    · exact ih (fun i hi => by
        rcases Nat.lt_or_ge m i with w | w
        · exact hf i (by omega)
        · rw [show i = m by omega]; exact h)
    · exact ⟨m, ⟨hf, Or.inr h⟩, Or.inl h⟩
def pz {q : Nat} : PS q := fun _ => 0
theorem padd_psub {q : Nat} (a b : PS q) : padd (psub a b) b = a := by funext n; show a n - b n + b n = a n; grind
theorem psub_self {q : Nat} (a : PS q) : psub a a = pz := by funext n; show a n - a n = 0; grind
theorem padd_z {q : Nat} (a : PS q) : padd a pz = a := by funext n; show a n + 0 = a n; grind
theorem padd_zl {q : Nat} (a : PS q) : padd pz a = a := by funext n; show 0 + a n = a n; grind
theorem pm_add {q : Nat} (f g h : PS q) : pl_mul f (padd g h) = padd (pl_mul f g) (pl_mul f h) := pl_mul_add f g h
theorem pm_addr {q : Nat} (f g h : PS q) : pl_mul (padd f g) h = padd (pl_mul f h) (pl_mul g h) := by
  rw [pl_mul_comm, pm_add, pl_mul_comm h f, pl_mul_comm h g]
theorem pm_sub {q : Nat} (f g h : PS q) : pl_mul f (psub g h) = psub (pl_mul f g) (pl_mul f h) := by
  have e : padd (pl_mul f (psub g h)) (pl_mul f h) = pl_mul f g := by rw [← pm_add, padd_psub]
  rw [← e]; funext n; show pl_mul f (psub g h) n = pl_mul f (psub g h) n + pl_mul f h n - pl_mul f h n; grind
theorem pm_subr {q : Nat} (f g h : PS q) : pl_mul (psub f g) h = psub (pl_mul f h) (pl_mul g h) := by
  rw [pl_mul_comm, pm_sub, pl_mul_comm h f, pl_mul_comm h g]
theorem pm_z {q : Nat} (f : PS q) : pl_mul pz f = pz := pl_mul_zero f
theorem pm_zr {q : Nat} (f : PS q) : pl_mul f pz = pz := by rw [pl_mul_comm]; exact pm_z f
theorem pm_ne {q m n : Nat} (hq : isP q) {f g : PS q} (hf : dl f m) (hg : dl g n) (h : pl_mul f g = pz) : f = pz ∨ g = pz := by
  obtain ⟨i, h1, h2⟩ := hd_ex hf
  obtain ⟨j, h3, h4⟩ := hd_ex hg
  rcases h2 with h2 | h2
  · rcases h4 with h4 | h4
    · have e := mul_top h1.1 h3.1
      rw [h] at e
      rcases fin_dom hq e.symm with z | z
      · exact absurd z h2
      · exact absurd z h4
    · exact Or.inr h4
  · exact Or.inl h2
/-- c x^k -/
def pmo {q : Nat} (c : Fin (q + 1)) (k : Nat) : PS q := fun n => if n = k then c else 0
theorem pmo_dl {q : Nat} (c : Fin (q + 1)) (k : Nat) : dl (pmo c k) (k + 1) := fun i hi => by unfold pmo; rw [if_neg (by omega)]
theorem pmo_mul {q : Nat} (c : Fin (q + 1)) (k : Nat) (b : PS q) : pl_mul (pmo c k) b = psh k (pscl b c) := by
  funext n
  show ps_ (fun i => pmo c k i * b (n - i)) (n + 1) = psh k (pscl b c) n
  unfold psh pscl
  split
  · exact ps_zero (fun i hi => by show pmo c k i * b (n - i) = 0; unfold pmo; rw [if_neg (by omega)]; grind)
  · rw [ps_one (i := k) (by omega) (fun i hi hne => by show pmo c k i * b (n - i) = 0; unfold pmo; rw [if_neg hne]; grind)]
    show pmo c k k * b (n - k) = b (n - k) * c
    unfold pmo; rw [if_pos rfl]; grind
/-- a = Q b + r, r of a lesser degree than b -/
def isD {q : Nat} (a b Q r : PS q) : Prop := ∃ n m, dl b (n + 1) ∧ b n ≠ 0 ∧ dl Q m ∧ dl r n ∧ a = padd (pl_mul Q b) r
theorem isD_ex {q n : Nat} (hq : isP q) {b : PS q} (hb : dl b (n + 1)) (hb0 : b n ≠ 0) : ∀ (k : Nat) (a : PS q), dl a (n + k) → ∃ Q r, dl Q k ∧ dl r n ∧ a = padd (pl_mul Q b) r
  | 0, a, ha => ⟨pz, a, fun _ _ => rfl, ha, by rw [pm_z, padd_zl]⟩
  | k + 1, a, ha => by
    have e1 := fiv_mul hq hb0
    obtain ⟨c, hc⟩ : ∃ c, c = a (n + k) * fiv q (b n) := ⟨_, rfl⟩
    have ha2 : dl (psub a (psh k (pscl b c))) (n + k) := fun i hi => by
      show a i - psh k (pscl b c) i = 0
      unfold psh pscl
      rw [if_neg (by omega)]
      rcases Nat.lt_or_ge (n + k) i with w | w
      · rw [ha i (by omega), hb (i - k) (by omega)]; grind
      · have : i = n + k := by omega
        subst this
        rw [show n + k - k = n by omega, hc]; grind
    obtain ⟨Q, r, h1, h2, h3⟩ := isD_ex hq hb hb0 k _ ha2
    refine ⟨padd Q (pmo c k), r, dl_add (dl_mono h1 (by omega)) (pmo_dl c k), h2, ?_⟩
    rw [pm_addr, pmo_mul]
    funext i
    have h4 := congrFun h3 i
    have h4 : a i - psh k (pscl b c) i = pl_mul Q b i + r i := h4
    show a i = pl_mul Q b i + psh k (pscl b c) i + r i
    grind
theorem isD_uq {q : Nat} (hq : isP q) {a b Q r Q2 r2 : PS q} (h : isD a b Q r) (h' : isD a b Q2 r2) : Q = Q2 ∧ r = r2 := by
  obtain ⟨n, m, b1, b2, q1, r1, e1⟩ := h
  obtain ⟨n', m', b1', b2', q1', r1', e1'⟩ := h'
  have hn : n = n' := by
    rcases Nat.lt_trichotomy n n' with w | w | w
    · exact absurd (b1 n' (by omega)) b2'
    · exact w
    · exact absurd (b1' n (by omega)) b2
  subst hn
  have e : pl_mul (psub Q Q2) b = psub r2 r := by
    rw [pm_subr]
    funext i
    have h1 := congrFun e1 i
    have h2 := congrFun e1' i
    have h1 : a i = pl_mul Q b i + r i := h1
    have h2 : a i = pl_mul Q2 b i + r2 i := h2
    show pl_mul Q b i - pl_mul Q2 b i = r2 i - r i
    grind
  have hd0 : dl (psub Q Q2) (m + m') := dl_sub (dl_mono q1 (by omega)) (dl_mono q1' (by omega))
  have hz : psub Q Q2 = pz := by
    obtain ⟨d, h1, h2⟩ := hd_ex hd0
    rcases h2 with h2 | h2
    · exfalso
      have e2 := mul_top h1.1 b1
      rw [e] at e2
      have e3 : psub r2 r (d + n) = 0 := dl_sub r1' r1 (d + n) (by omega)
      rw [e3] at e2
      rcases fin_dom hq e2.symm with z | z
      · exact h2 z
      · exact b2 z
    · exact h2
  have e5 : Q = Q2 := by
    funext i
    have := congrFun hz i
    have : Q i - Q2 i = 0 := this
    grind
  refine ⟨e5, ?_⟩
  subst e5
  funext i
  have h1 := congrFun e1 i
  have h2 := congrFun e1' i
  have h1 : a i = pl_mul Q b i + r i := h1
  have h2 : a i = pl_mul Q b i + r2 i := h2
  grind
noncomputable def pqr {q : Nat} (a b : PS q) : PS q × PS q := @dite _ (∃ x : PS q × PS q, isD a b x.1 x.2) (Classical.propDecidable _) (fun h => Classical.choose h) (fun _ => (pz, a))
noncomputable def pquo {q : Nat} (a b : PS q) : PS q := (pqr a b).1
noncomputable def prem {q : Nat} (a b : PS q) : PS q := (pqr a b).2
theorem pqr_at {q : Nat} (hq : isP q) {a b Q r : PS q} (h : isD a b Q r) : pquo a b = Q ∧ prem a b = r := by
  have hx : ∃ x : PS q × PS q, isD a b x.1 x.2 := ⟨(Q, r), h⟩
  have e : pqr a b = Classical.choose hx := by unfold pqr; rw [dif_pos hx]
  have := isD_uq hq (Classical.choose_spec hx) h
  unfold pquo prem
  rw [e]; exact this
theorem pqr_z {q : Nat} (a : PS q) : pquo a pz = pz ∧ prem a pz = a := by
  have hx : ¬ ∃ x : PS q × PS q, isD a pz x.1 x.2 := fun ⟨x, n, m, h1, h2, _⟩ => h2 rfl
  have e : pqr a pz = (pz, a) := by unfold pqr; rw [dif_neg hx]
  unfold pquo prem
  rw [e]; exact ⟨rfl, rfl⟩
theorem pqr_is {q n m : Nat} (hq : isP q) {a b : PS q} (ha : dl a m) (hb : dl b (n + 1)) (hb0 : b n ≠ 0) : isD a b (pquo a b) (prem a b) ∧ dl (pquo a b) (m - n) ∧ dl (prem a b) n ∧ a = padd (pl_mul (pquo a b) b) (prem a b) := by
  obtain ⟨Q, r, h1, h2, h3⟩ := isD_ex hq hb hb0 (m - n) a (dl_mono ha (by omega))
  have hD : isD a b Q r := ⟨n, m - n, hb, hb0, h1, h2, h3⟩
  obtain ⟨e1, e2⟩ := pqr_at hq hD
  rw [e1, e2]
  exact ⟨hD, h1, h2, h3⟩
theorem prem_small {q n : Nat} (hq : isP q) {a b : PS q} (hb : dl b (n + 1)) (hb0 : b n ≠ 0) (ha : dl a n) : pquo a b = pz ∧ prem a b = a :=
  pqr_at hq ⟨n, 0, hb, hb0, fun _ _ => rfl, ha, by rw [pm_z, padd_zl]⟩
theorem prem_sub {q n m : Nat} (hq : isP q) {a b : PS q} (ha : dl a m) (hb : dl b (n + 1)) (hb0 : b n ≠ 0) (c : Fin (q + 1)) (k : Nat) : prem (psub a (psh k (pscl b c))) b = prem a b ∧ padd (pquo (psub a (psh k (pscl b c))) b) (pmo c k) = pquo a b := by
  obtain ⟨-, h1, h2, h3⟩ := pqr_is hq ha hb hb0
  have hD : isD (psub a (psh k (pscl b c))) b (psub (pquo a b) (pmo c k)) (prem a b) := by
    refine ⟨n, m - n + (k + 1), hb, hb0, dl_sub (dl_mono h1 (by omega)) (dl_mono (pmo_dl c k) (by omega)), h2, ?_⟩
    rw [pm_subr, pmo_mul]
    funext i
    have h4 := congrFun h3 i
    have h4 : a i = pl_mul (pquo a b) b i + prem a b i := h4
    show a i - psh k (pscl b c) i = pl_mul (pquo a b) b i - psh k (pscl b c) i + prem a b i
    grind
  obtain ⟨e1, e2⟩ := pqr_at hq hD
  rw [e1, e2]
  exact ⟨rfl, padd_psub _ _⟩
