/-! remainders by computation -/
def crm {q : Nat} (n : Nat) (b : PS q) : Nat → PS q → PS q
  | 0, a => a
  | k + 1, a => crm n b k (psub a (psh k (pscl b (a (n + k)))))
theorem crm_eq {q n : Nat} (hq : isP q) {b : PS q} (hb : dl b (n + 1)) (hb1 : b n = 1) : ∀ (k : Nat) (a : PS q), dl a (n + k) → crm n b k a = prem a b
  | 0, a, ha => by
    have h0 : b n ≠ 0 := fun z => by rw [hb1] at z; exact one_ne hq (funext fun i => by show (if i = 0 then (1 : Fin (q + 1)) else 0) = 0; split; exact z; rfl)
    exact (prem_small hq hb h0 ha).2.symm
  | k + 1, a, ha => by
    have h0 : b n ≠ 0 := fun z => by rw [hb1] at z; exact one_ne hq (funext fun i => by show (if i = 0 then (1 : Fin (q + 1)) else 0) = 0; split; exact z; rfl)
    show crm n b k (psub a (psh k (pscl b (a (n + k))))) = prem a b
    rw [crm_eq hq hb hb1 k _ (fun i hi => by
      show a i - psh k (pscl b (a (n + k))) i = 0
      unfold psh pscl
      rw [if_neg (by omega)]
      rcases Nat.lt_or_ge (n + k) i with w | w
      · rw [ha i (by omega), hb (i - k) (by omega)]; grind
      · have : i = n + k := by omega
        subst this
        rw [show n + k - k = n by omega, hb1]; grind), (prem_sub hq ha hb h0 _ k).1]
/-- a number of degree n with 1 as its first coefficient -/
theorem pn_mon {q n u : Nat} (hq : isP q) (h1 : (q + 1) ^ n ≤ u) (h2 : u < 2 * (q + 1) ^ n) : dl (pn q u) (n + 1) ∧ pn q u n = 1 := by
  have hl := isP_lo hq
  have hpos : 0 < (q + 1) ^ n := Nat.pow_pos (by omega)
  refine ⟨pn_dl ?_, ?_⟩
  · rw [Nat.pow_succ]
    have : 2 * (q + 1) ^ n ≤ (q + 1) ^ n * (q + 1) := by rw [Nat.mul_comm]; exact Nat.mul_le_mul_left _ (by omega)
    omega
  · apply Fin.ext
    rw [pn_val]
    have e : u / (q + 1) ^ n = 1 := by
      refine (Nat.div_eq_iff hpos).mpr ?_
      omega
    rw [e]; rfl
/-- u, of degree n, is no product: no w of degree d, 1 .. n / 2, divides it -/
def irr (q n u : Nat) : Prop := ∀ d w, 1 ≤ d → 2 * d ≤ n → (q + 1) ^ d ≤ w → w < 2 * (q + 1) ^ d → prem (pn q u) (pn q w) ≠ pz
def cdv (q n u d w : Nat) : Bool := (List.range d).all (fun i => decide (crm d (pn q w) (n + 1 - d) (pn q u) i = 0))
theorem cdv_ok {q n u d w : Nat} (hq : isP q) (hu : u < (q + 1) ^ (n + 1)) (hd : d ≤ n) (h1 : (q + 1) ^ d ≤ w) (h2 : w < 2 * (q + 1) ^ d) : cdv q n u d w = true ↔ prem (pn q u) (pn q w) = pz := by
  obtain ⟨m1, m2⟩ := pn_mon hq h1 h2
  have hu' : dl (pn q u) (d + (n + 1 - d)) := dl_mono (pn_dl hu) (by omega)
  have e := crm_eq hq m1 m2 (n + 1 - d) (pn q u) hu'
  have h0 : pn q w d ≠ 0 := fun z => by
    rw [m2] at z
    exact one_ne hq (funext fun i => by show (if i = 0 then (1 : Fin (q + 1)) else 0) = 0; split; exact z; rfl)
  have hr := (pqr_is hq (pn_dl hu) m1 h0).2.2.1
  unfold cdv
  rw [List.all_eq_true, e]
  constructor
  · intro h
    funext i
    rcases Nat.lt_or_ge i d with w1 | w1
    · exact of_decide_eq_true (h i (List.mem_range.mpr w1))
    · exact hr i w1
  · intro h i _
    rw [h]; rfl
def cirr (q n u : Nat) : Bool := (List.range (n + 1)).all (fun d => d == 0 || decide (n < 2 * d) || (List.range ((q + 1) ^ d)).all (fun v => !cdv q n u d ((q + 1) ^ d + v)))
theorem cirr_ok {q n u : Nat} (hq : isP q) (hu : u < (q + 1) ^ (n + 1)) : cirr q n u = true ↔ irr q n u := by
  unfold cirr irr
  rw [List.all_eq_true]
  constructor
  · intro h d w h1 h2 h3 h4 hz
    have := h d (List.mem_range.mpr (by omega))
    have e0 : (d == 0) = false := by simp; omega
    have e1 : decide (n < 2 * d) = false := by simp; omega
    rw [e0, e1, Bool.false_or, Bool.false_or, List.all_eq_true] at this
    have h5 := this (w - (q + 1) ^ d) (List.mem_range.mpr (by omega))
    rw [show (q + 1) ^ d + (w - (q + 1) ^ d) = w by omega, (cdv_ok hq hu (by omega) h3 h4).mpr hz] at h5
    exact absurd h5 (by decide)
  · intro h d hd
    by_cases e0 : d = 0
    · rw [e0]; rfl
    · by_cases e1 : n < 2 * d
      · rw [decide_eq_true e1, Bool.or_true, Bool.true_or]
      · have : (List.range ((q + 1) ^ d)).all (fun v => !cdv q n u d ((q + 1) ^ d + v)) = true := by
          rw [List.all_eq_true]
          intro v hv
          have hv := List.mem_range.mp hv
          cases hc : cdv q n u d ((q + 1) ^ d + v) with
          | false => rfl
          | true => exact absurd ((cdv_ok hq hu (by omega) (by omega) (by omega)).mp hc) (h d _ (by omega) (by omega) (by omega) (by omega))
        rw [this, Bool.or_true]
/-- the fields: how many, M(n), a number whose powers are all -/
def nfd (q : Nat) : Nat := if q = 2 then 5 else if q = 4 then 3 else if q = 6 then 3 else 2
def Mnu (q n : Nat) : Nat := if q = 2 then (if n = 1 then 3 else if n = 2 then 10 else if n = 3 then 34 else if n = 4 then 86 else 250) else if q = 4 then (if n = 1 then 5 else if n = 2 then 27 else 131) else if q = 6 then (if n = 1 then 7 else if n = 2 then 50 else 345) else if q = 10 then (if n = 1 then 11 else 122) else (if n = 1 then 13 else 171)
theorem Mnu_ok {q : Nat} (hq : isP q) : ∀ n, n < 6 → 1 ≤ n → n ≤ nfd q → ((q + 1) ^ n ≤ Mnu q n ∧ Mnu q n < 2 * (q + 1) ^ n ∧ (q + 1) ^ n ≤ 343 ∧ cirr q n (Mnu q n) = true ∧ (List.range (Mnu q n - (q + 1) ^ n)).all (fun v => !cirr q n ((q + 1) ^ n + v)) = true) := by
  rcases hq with rfl | rfl | rfl | rfl | rfl <;> decide +kernel
theorem nfd_ok {q : Nat} (hq : isP q) : 343 < (q + 1) ^ (nfd q + 1) ∧ 2 ≤ nfd q ∧ nfd q ≤ 5 := by
  rcases hq with rfl | rfl | rfl | rfl | rfl <;> decide
