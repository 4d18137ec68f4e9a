/-! squares by u -/
theorem fo_add (q a b : Nat) : Fin.ofNat (q + 1) (a + b) = Fin.ofNat (q + 1) a + Fin.ofNat (q + 1) b := by
  apply Fin.ext
  show (a + b) % (q + 1) = (a % (q + 1) + b % (q + 1)) % (q + 1)
  rw [Nat.add_mod]
theorem fo_mul (q a b : Nat) : Fin.ofNat (q + 1) (a * b) = Fin.ofNat (q + 1) a * Fin.ofNat (q + 1) b := by
  apply Fin.ext
  show (a * b) % (q + 1) = (a % (q + 1) * (b % (q + 1))) % (q + 1)
  rw [Nat.mul_mod]
theorem fo_mod (q a : Nat) : Fin.ofNat (q + 1) (a % (q + 1)) = Fin.ofNat (q + 1) a := by
  apply Fin.ext
  show (a % (q + 1)) % (q + 1) = a % (q + 1)
  rw [Nat.mod_mod]
theorem fo_p (q : Nat) : Fin.ofNat (q + 1) (q + 1) = 0 := by
  apply Fin.ext
  exact Nat.mod_self _
theorem fo_sub {q x : Nat} (h : x ≤ q + 1) : Fin.ofNat (q + 1) (q + 1 - x) = - Fin.ofNat (q + 1) x := by
  have e := fo_add q (q + 1 - x) x
  rw [Nat.sub_add_cancel h, fo_p] at e
  generalize Fin.ofNat (q + 1) (q + 1 - x) = a at *
  generalize Fin.ofNat (q + 1) x = b at *
  grind
theorem fo_val {q a : Nat} : (Fin.ofNat (q + 1) a).val = a % (q + 1) := rfl
theorem fo_0 (q : Nat) : Fin.ofNat (q + 1) 0 = 0 := rfl
theorem pn_split (q v : Nat) : pn q v = padd (pl_c (Fin.ofNat (q + 1) v)) (pl_mul px (pn q (v / (q + 1)))) := by
  have e := tl_split (pn q v)
  rw [sh_x, show ptl (pn q v) = pn q (v / (q + 1)) from pn_shift q v, show pn q v 0 = Fin.ofNat (q + 1) v by unfold pn; rw [Nat.pow_zero, Nat.div_one]] at e
  exact e
theorem pn_small {q c : Nat} (h : c < q + 1) : pn q c = pl_c (Fin.ofNat (q + 1) c) := by
  rw [pn_split, Nat.div_eq_of_lt h, pn_0, pm_zr, padd_z]
theorem c_mul {q : Nat} (a b : Fin (q + 1)) : (pl_c (a * b) : PS q) = pl_mul (pl_c a) (pl_c b) := hm_c.2.1 a b
theorem c_add {q : Nat} (a b : Fin (q + 1)) : (pl_c (a + b) : PS q) = padd (pl_c a) (pl_c b) := pl_c_add a b
theorem c_sub {q : Nat} (a b : Fin (q + 1)) : (pl_c (a - b) : PS q) = psub (pl_c a) (pl_c b) := by
  funext n
  show (if n = 0 then a - b else 0) = (if n = 0 then a else 0) - (if n = 0 then b else 0)
  by_cases c : n = 0
  · rw [if_pos c, if_pos c, if_pos c]
  · rw [if_neg c, if_neg c, if_neg c]; grind
theorem c_0 {q : Nat} : (pl_c 0 : PS q) = pz := pl_c_zero
/-- what is left of v v by u -/
def sqS (q u v : Nat) : PS q := padd (pl_c (Fin.ofNat (q + 1) v * Fin.ofNat (q + 1) v - Fin.ofNat (q + 1) (v / (q + 1)) * Fin.ofNat (q + 1) (v / (q + 1)) * Fin.ofNat (q + 1) u)) (pl_mul px (pl_c (Fin.ofNat (q + 1) v * Fin.ofNat (q + 1) (v / (q + 1)) + Fin.ofNat (q + 1) v * Fin.ofNat (q + 1) (v / (q + 1)) - Fin.ofNat (q + 1) (v / (q + 1)) * Fin.ofNat (q + 1) (v / (q + 1)) * Fin.ofNat (q + 1) (u / (q + 1)))))
theorem rg_sq {A : Type} [Lean.Grind.CommRing A] (a b u0 u1 x o : A) (ho : o = 1) : (a + x * b) * (a + x * b) = (b * b) * (u0 + x * (u1 + x * o)) + ((a * a - b * b * u0) + x * (a * b + a * b - b * b * u1)) := by
  rw [ho]; clear ho; grind
theorem sq_rem {q d u v : Nat} (hq : isP q) (hd : d ≤ 2) (h1 : (q + 1) ^ d ≤ u) (h2 : u < 2 * (q + 1) ^ d) (hv : v < (q + 1) ^ d) : prem (pl_mul (pn q v) (pn q v)) (pn q u) = sqS q u v ∧ dl (sqS q u v) d := by
  have hl := isP_lo hq
  obtain ⟨m1, m2⟩ := pn_mon hq h1 h2
  have m0 : pn q u d ≠ 0 := by rw [m2]; exact one_ne0 hq
  match d, hd with
  | 0, _ =>
    rw [Nat.pow_zero] at h1 h2 hv
    have ev : v = 0 := by omega
    subst ev
    have e : sqS q u 0 = pz := by
      unfold sqS
      rw [Nat.zero_div, fo_0]
      rw [show (0 : Fin (q + 1)) * 0 - 0 * 0 * Fin.ofNat (q + 1) u = 0 by grind, show (0 : Fin (q + 1)) * 0 + 0 * 0 - 0 * 0 * Fin.ofNat (q + 1) (u / (q + 1)) = 0 by grind, c_0, pm_zr, padd_z]
    rw [e, pn_0, pm_z]
    refine ⟨(prem_small hq m1 m0 (fun _ _ => rfl)).2, fun _ _ => rfl⟩
  | 1, _ =>
    rw [Nat.pow_one] at h1 h2 hv
    have e : sqS q u v = pl_mul (pn q v) (pn q v) := by
      unfold sqS
      rw [Nat.div_eq_of_lt hv, fo_0]
      generalize Fin.ofNat (q + 1) u = y
      generalize Fin.ofNat (q + 1) (u / (q + 1)) = y'
      have e1 : Fin.ofNat (q + 1) v * Fin.ofNat (q + 1) v - 0 * 0 * y = Fin.ofNat (q + 1) v * Fin.ofNat (q + 1) v := by
        generalize Fin.ofNat (q + 1) v = z
        grind
      have e2 : Fin.ofNat (q + 1) v * 0 + Fin.ofNat (q + 1) v * 0 - 0 * 0 * y' = 0 := by
        generalize Fin.ofNat (q + 1) v = z
        grind
      rw [e1, e2, c_0, pm_zr, padd_z, c_mul, pn_small hv]
    rw [e]
    have hdl : dl (pl_mul (pn q v) (pn q v)) 1 := dl_mul (pn_dl (n := 1) (by rw [Nat.pow_one]; exact hv)) (pn_dl (n := 1) (by rw [Nat.pow_one]; exact hv))
    exact ⟨(prem_small hq m1 m0 hdl).2, hdl⟩
  | 2, _ =>
    have e2 : (q + 1) ^ 2 = (q + 1) * (q + 1) := Nat.pow_two _
    rw [e2] at h1 h2 hv
    have hv1 : v / (q + 1) < q + 1 := Nat.div_lt_of_lt_mul hv
    have hu2 : u / (q + 1) / (q + 1) = 1 := by
      rw [Nat.div_div_eq_div_mul]
      exact Nat.div_eq_of_lt_le (by omega) (by omega)
    have ev : pn q v = padd (pl_c (Fin.ofNat (q + 1) v)) (pl_mul px (pl_c (Fin.ofNat (q + 1) (v / (q + 1))))) := by
      rw [pn_split q v, pn_small hv1]
    have eu : pn q u = padd (pl_c (Fin.ofNat (q + 1) u)) (pl_mul px (padd (pl_c (Fin.ofNat (q + 1) (u / (q + 1)))) (pl_mul px (pl_c 1)))) := by
      rw [pn_split q u, pn_split q (u / (q + 1)), hu2, pn_1 hq]
    have hS : dl (sqS q u v) 2 := by
      unfold sqS
      exact dl_add (dl_mono (pc_dl _) (by omega)) (dl_mono (dl_mul (pmo_dl 1 1) (pc_dl _)) (by omega))
    refine ⟨(pqr_at hq (Q := pl_mul (pl_c (Fin.ofNat (q + 1) (v / (q + 1)))) (pl_c (Fin.ofNat (q + 1) (v / (q + 1))))) ⟨2, 1, m1, m0, dl_mul (pc_dl _) (pc_dl _), hS, ?_⟩).2, hS⟩
    rw [ev, eu]
    unfold sqS
    simp only [c_sub, c_add, c_mul]
    have ho : (pl_c 1 : PS q) = @OfNat.ofNat (PS q) 1 ((serRing (Fin (q + 1))).ofNat 1) := rfl
    generalize (pl_c (Fin.ofNat (q + 1) v) : PS q) = a
    generalize (pl_c (Fin.ofNat (q + 1) (v / (q + 1))) : PS q) = b
    generalize (pl_c (Fin.ofNat (q + 1) u) : PS q) = u0
    generalize (pl_c (Fin.ofNat (q + 1) (u / (q + 1))) : PS q) = u1
    generalize (pl_c 1 : PS q) = o at *
    exact @rg_sq (PS q) (serRing (Fin (q + 1))) a b u0 u1 px o ho
theorem rg_sd {A : Type} [Lean.Grind.CommRing A] {a b qa qb ra rb u : A} (h1 : a = qa * u + ra) (h2 : b = qb * u + rb) : a - b = (qa - qb) * u + (ra - rb) := by
  rw [h1, h2]; clear h1 h2; grind
theorem prem_dif {q n : Nat} (hq : isP q) {a b u : PS q} (ha : isPol a) (hb : isPol b) (hu : dl u (n + 1)) (u0 : u n ≠ 0) : prem (psub a b) u = psub (prem a u) (prem b u) := by
  obtain ⟨ka, ha⟩ := ha
  obtain ⟨kb, hb⟩ := hb
  obtain ⟨-, a1, a2, a3⟩ := pqr_is hq ha hu u0
  obtain ⟨-, b1, b2, b3⟩ := pqr_is hq hb hu u0
  refine (pqr_at hq (Q := psub (pquo a u) (pquo b u)) ⟨n, ka - n + (kb - n), hu, u0, dl_sub (dl_mono a1 (by omega)) (dl_mono b1 (by omega)), dl_sub a2 b2, ?_⟩).2
  exact @rg_sd (PS q) (serRing (Fin (q + 1))) a b (pquo a u) (pquo b u) (prem a u) (prem b u) u a3 b3
theorem psub_eq {q : Nat} {a b : PS q} : psub a b = pz ↔ a = b := by
  constructor
  · intro h
    funext k
    have := congrFun h k
    have this : a k - b k = 0 := this
    generalize a k = x at *
    generalize b k = y at *
    grind
  · intro h; rw [h, psub_self]
theorem gd_S {q d u v : Nat} (hq : isP q) {P : PS q} (hP : isPol P) (hd : d ≤ 2) (h1 : (q + 1) ^ d ≤ u) (h2 : u < 2 * (q + 1) ^ d) (hv : v < (q + 1) ^ d) : gd q P u v ↔ prem P (pn q u) = sqS q u v := by
  obtain ⟨m1, m2⟩ := pn_mon hq h1 h2
  have m0 : pn q u d ≠ 0 := by rw [m2]; exact one_ne0 hq
  have iv : isPol (pn q v) := ⟨_, pn_dl hv⟩
  unfold gd
  rw [prem_dif hq hP (ip_mul iv iv) m1 m0, (sq_rem hq hd h1 h2 hv).1, psub_eq]
theorem sqS_0 (q u v : Nat) : sqS q u v 0 = Fin.ofNat (q + 1) v * Fin.ofNat (q + 1) v - Fin.ofNat (q + 1) (v / (q + 1)) * Fin.ofNat (q + 1) (v / (q + 1)) * Fin.ofNat (q + 1) u := by
  unfold sqS
  generalize Fin.ofNat (q + 1) v * Fin.ofNat (q + 1) v - Fin.ofNat (q + 1) (v / (q + 1)) * Fin.ofNat (q + 1) (v / (q + 1)) * Fin.ofNat (q + 1) u = c
  rw [← sh_x]
  show (if 0 = 0 then c else 0) + (if 0 < 1 then 0 else _) = c
  rw [if_pos rfl, if_pos (by omega)]
  grind
theorem sqS_1 (q u v : Nat) : sqS q u v 1 = Fin.ofNat (q + 1) v * Fin.ofNat (q + 1) (v / (q + 1)) + Fin.ofNat (q + 1) v * Fin.ofNat (q + 1) (v / (q + 1)) - Fin.ofNat (q + 1) (v / (q + 1)) * Fin.ofNat (q + 1) (v / (q + 1)) * Fin.ofNat (q + 1) (u / (q + 1)) := by
  unfold sqS
  generalize Fin.ofNat (q + 1) v * Fin.ofNat (q + 1) (v / (q + 1)) + Fin.ofNat (q + 1) v * Fin.ofNat (q + 1) (v / (q + 1)) - Fin.ofNat (q + 1) (v / (q + 1)) * Fin.ofNat (q + 1) (v / (q + 1)) * Fin.ofNat (q + 1) (u / (q + 1)) = c
  rw [← sh_x]
  show (if 1 = 0 then _ else 0) + (if 1 < 1 then 0 else (if 1 - 1 = 0 then c else 0)) = c
  rw [if_neg (by omega), if_neg (by omega), if_pos rfl]
  grind
theorem sqS_dl (q u v : Nat) : dl (sqS q u v) 2 := by
  unfold sqS
  exact dl_add (dl_mono (pc_dl _) (by omega)) (dl_mono (dl_mul (pmo_dl 1 1) (pc_dl _)) (by omega))
/-- the class's own way -/
theorem s_sqrS {t : fcS} {q u v : Nat} (hq : isP q) (hp : rp t q) (hu : u < 2 ^ 30) (hv : v < (q + 1) ^ 2) {post : Int32 → fcS → Prop} (h : post (Ni q (sqS q u v)) t) : q_X3_squareRest t (nI v) (nI u) post := by
  have hl := isP_lo hq
  have hv1 : v / (q + 1) < q + 1 := Nat.div_lt_of_lt_mul (by rw [← Nat.pow_two]; exact hv)
  refine s_sqr hq hp u v hu hv ?_
  rw [Ni_dl hl.1 (pw7 hq (by omega) : (q + 1) ^ 2 < 2 ^ 30) (sqS_dl q u v), nu_succ, nu_succ, Nat.pow_zero, Nat.mul_one, Nat.pow_one, sqS_0, sqS_1] at h
  have k0 : Fin.ofNat (q + 1) v * Fin.ofNat (q + 1) v - Fin.ofNat (q + 1) (v / (q + 1)) * Fin.ofNat (q + 1) (v / (q + 1)) * Fin.ofNat (q + 1) u = Fin.ofNat (q + 1) (v % (q + 1) * (v % (q + 1)) + (q + 1 - u % (q + 1)) * (v / (q + 1)) * (v / (q + 1))) := by
    rw [fo_add, fo_mul, fo_mul, fo_mul, fo_sub (Nat.le_of_lt (Nat.mod_lt _ (by omega))), fo_mod, fo_mod]
    generalize Fin.ofNat (q + 1) v = a
    generalize Fin.ofNat (q + 1) (v / (q + 1)) = b
    generalize Fin.ofNat (q + 1) u = c
    grind
  have k1 : Fin.ofNat (q + 1) v * Fin.ofNat (q + 1) (v / (q + 1)) + Fin.ofNat (q + 1) v * Fin.ofNat (q + 1) (v / (q + 1)) - Fin.ofNat (q + 1) (v / (q + 1)) * Fin.ofNat (q + 1) (v / (q + 1)) * Fin.ofNat (q + 1) (u / (q + 1)) = Fin.ofNat (q + 1) (v / (q + 1) * (2 * (v % (q + 1)) + (q + 1 - u / (q + 1) % (q + 1)) * (v / (q + 1)))) := by
    rw [fo_mul, fo_add, fo_mul, fo_mul, fo_sub (Nat.le_of_lt (Nat.mod_lt _ (by omega))), fo_mod, fo_mod, show Fin.ofNat (q + 1) 2 = Fin.ofNat (q + 1) 1 + Fin.ofNat (q + 1) 1 from fo_add q 1 1, show Fin.ofNat (q + 1) 1 = 1 from rfl]
    generalize Fin.ofNat (q + 1) v = a
    generalize Fin.ofNat (q + 1) (v / (q + 1)) = b
    generalize Fin.ofNat (q + 1) (u / (q + 1)) = c
    grind
  rw [k0, k1, fo_val, fo_val] at h
  have e0 : nu q 0 (sqS q u v) = 0 := rfl
  rw [e0, Nat.zero_add, Nat.add_comm] at h
  exact h
