/-! a polynomial moved along -/
theorem hm_c {q : Nat} : @isHm q (PS q) (serRing (Fin (q + 1))) pl_c := by
  refine ⟨fun a b => pl_c_add a b, fun a b => ?_, ?_, ?_⟩
  · show pl_c (a * b) = pl_mul (pl_c a) (pl_c b)
    rw [← scl_c]
    funext n
    show (if n = 0 then a * b else 0) = (if n = 0 then b else 0) * a
    by_cases c : n = 0
    · rw [if_pos c, if_pos c]; grind
    · rw [if_neg c, if_neg c]; grind
  · exact rfl
  · exact rfl
/-- f at x + c -/
def psf {q : Nat} (c : Fin (q + 1)) (n : Nat) (F : PS q) : PS q := @evl q (PS q) (serRing (Fin (q + 1))) pl_c (plin c) n F
theorem psf_s {q : Nat} (c : Fin (q + 1)) (n : Nat) (F : PS q) : psf c (n + 1) F = padd (pl_c (F 0)) (pl_mul (plin c) (psf c n (ptl F))) := rfl
theorem psf_0 {q : Nat} (c : Fin (q + 1)) (F : PS q) : psf c 0 F = pz := pol_0 q
theorem psf_dl {q : Nat} (c : Fin (q + 1)) : ∀ (n : Nat) (F : PS q), dl (psf c n F) n
  | 0, F => by rw [psf_0]; exact fun _ _ => rfl
  | n + 1, F => by
    rw [psf_s]
    exact dl_add (dl_mono (pc_dl _) (by omega)) (dl_mono (dl_mul (plin_dl c) (psf_dl c n (ptl F))) (by omega))
theorem psf_mul {q : Nat} (c : Fin (q + 1)) {a b : Nat} {F G : PS q} (hF : dl F a) (hG : dl G b) : psf c (a + b) (pl_mul F G) = pl_mul (psf c a F) (psf c b G) := @evl_mul q (PS q) (serRing (Fin (q + 1))) pl_c hm_c (plin c) b G hG a F hF
theorem psf_add {q : Nat} (c : Fin (q + 1)) (n : Nat) (F G : PS q) : psf c n (padd F G) = padd (psf c n F) (psf c n G) := @evl_add q (PS q) (serRing (Fin (q + 1))) pl_c hm_c (plin c) n F G
theorem psf_le {q : Nat} (c : Fin (q + 1)) {n m : Nat} {F : PS q} (hF : dl F n) (hm : n ≤ m) : psf c m F = psf c n F := @evl_le q (PS q) (serRing (Fin (q + 1))) pl_c hm_c (plin c) n m F hF hm
theorem psf_sh {q : Nat} (c : Fin (q + 1)) (n : Nat) (F : PS q) : psf c (n + 1) (psh 1 F) = pl_mul (plin c) (psf c n F) := @evl_sh q (PS q) (serRing (Fin (q + 1))) pl_c hm_c (plin c) n F
theorem psf_one {q : Nat} (c : Fin (q + 1)) (n : Nat) : psf c (n + 1) (pl_c 1 : PS q) = pl_c 1 := @evl_c q (PS q) (serRing (Fin (q + 1))) pl_c hm_c (plin c) 1 n
theorem der_lin {q : Nat} (c : Fin (q + 1)) : pder (plin c) = pl_c 1 := by
  funext n
  show (if n + 1 = 0 then c else if n + 1 = 1 then 1 else 0) * Fin.ofNat (q + 1) (n + 1) = if n = 0 then 1 else 0
  rw [if_neg (by omega)]
  by_cases z : n = 0
  · rw [if_pos (by omega), if_pos z, z, fin_succ, show Fin.ofNat (q + 1) 0 = 0 from rfl]; grind
  · rw [if_neg (by omega), if_neg z]; grind
theorem pm_oneL {q : Nat} (F : PS q) : pl_mul (pl_c 1) F = F := by
  rw [← scl_c]
  funext n
  show F n * 1 = F n
  grind
theorem psf_der {q : Nat} (c : Fin (q + 1)) : ∀ (n : Nat) {F : PS q}, dl F n → pder (psf c n F) = psf c n (pder F)
  | 0, F, h => by rw [psf_0, psf_0, der_z]
  | n + 1, F, h => by
    rw [psf_s, der_add, der_c, padd_zl, der_mul _ (plin_dl c), der_lin, pm_oneL, psf_der c n (ptl_dl h), der_tl F, psf_add, psf_sh, psf_le c (m := n + 1) (ptl_dl h) (by omega)]
theorem pmv_psf {q : Nat} (F : PS q) (c : Fin (q + 1)) (n : Nat) : ∀ d, d ≤ n + 1 → pmv F c d n = psf c d (fun i => F (n + 1 - d + i))
  | 0, _ => by rw [psf_0]; rfl
  | d + 1, h => by
    rw [psf_s]
    have e := pmv_psf F c n d (by omega)
    show padd (pl_mul (pmv F c d n) (plin c)) (pl_c (F (n - d))) = _
    rw [e, pl_mul_comm]
    have e2 : ptl (fun i => F (n + 1 - (d + 1) + i)) = fun i => F (n + 1 - d + i) := by
      funext i
      show F (n + 1 - (d + 1) + (i + 1)) = F (n + 1 - d + i)
      congr 1; omega
    rw [e2]
    rw [show n + 1 - (d + 1) + 0 = n - d by omega]
    funext k
    show _ + _ = _ + _
    generalize pl_mul (plin c) (psf c d fun i => F (n + 1 - d + i)) k = x
    generalize pl_c (F (n - d)) k = y
    grind
theorem cvP_psf (q : Nat) (x : Nat × Nat × Nat) : cvP q x = psf (Fin.ofNat (q + 1) x.2.2) 7 (cvF q x) := by
  rw [cvP_F, pmv_psf _ _ 6 7 (by omega)]
  congr 1
  funext i
  show cvF q x (6 + 1 - 7 + i) = _
  congr 1; omega
/-! without square -/
def bzt {q : Nat} (P : PS q) : Prop := ∃ a b, isPol a ∧ isPol b ∧ padd (pl_mul a P) (pl_mul b (pder P)) = pl_c 1
theorem bzt_knot {q f : Nat} (hq : isP q) (h7 : f < (q + 1) ^ 7) (h0 : 0 < f) (hn : hd (pgcd (pn q f) (pder (pn q f))) 0) : bzt (pn q f) := by
  obtain ⟨-, -, e, i1, i2, n, hn1, hn2⟩ := gcd_is hq ⟨7, pn_dl h7⟩ (dl_mono (der_dl (pn_dl h7)) (by omega)) (Or.inl (pn_ne0 h7 h0))
  have n0 : n = 0 := by
    refine hd_uq ⟨hn1, ?_⟩ hn
    right
    rw [hn2]; exact one_ne0 hq
  subst n0
  refine ⟨_, _, i1, i2, ?_⟩
  rw [← e]
  funext k
  show _ = if k = 0 then 1 else 0
  by_cases z : k = 0
  · rw [if_pos z, z]; exact hn2
  · rw [if_neg z]; exact hn1 k (by omega)
theorem bzt_scl {q : Nat} (hq : isP q) {P : PS q} {c : Fin (q + 1)} (hc : c ≠ 0) (h : bzt P) : bzt (pscl P c) := by
  obtain ⟨a, b, ia, ib, e⟩ := h
  refine ⟨pscl a (fiv q c), pscl b (fiv q c), ip_scl ia _, ip_scl ib _, ?_⟩
  have k : ∀ x y : PS q, pl_mul (pscl x (fiv q c)) (pscl y c) = pl_mul x y := fun x y => by
    rw [pscl_mul, pscl_mulR]
    funext n
    show pl_mul x y n * c * fiv q c = pl_mul x y n
    have := fiv_mul hq hc
    generalize pl_mul x y n = z
    generalize fiv q c = w at *
    grind
  rw [der_scl, k, k]; exact e
theorem bzt_sf {q n : Nat} {P : PS q} (c : Fin (q + 1)) (hP : dl P n) (h : bzt P) : bzt (psf c n P) := by
  obtain ⟨a, b, ⟨na, ia⟩, ⟨nb, ib⟩, e⟩ := h
  refine ⟨psf c (na + nb + 1) a, psf c (na + nb + 1) b, ⟨_, psf_dl c _ _⟩, ⟨_, psf_dl c _ _⟩, ?_⟩
  have ia' : dl a (na + nb + 1) := dl_mono ia (by omega)
  have ib' : dl b (na + nb + 1) := dl_mono ib (by omega)
  rw [psf_der c n hP, ← psf_mul c ia' hP, ← psf_mul c ib' (dl_mono (der_dl hP) (by omega)), ← psf_add, e, show na + nb + 1 + n = (na + nb + n) + 1 by omega, psf_one]
theorem cv_bzt {q : Nat} {x : Nat × Nat × Nat} (hq : isP q) (h : cvV q x) : bzt (cvP q x) := by
  have hl := isP_lo hq
  have hf0 : 0 < x.2.1 := by have : 0 < (q + 1) ^ 3 := Nat.pow_pos (by omega); have := h.2.1; omega
  have h1 := bzt_knot hq h.2.2.1 hf0 h.2.2.2.2.2
  have h2 : bzt (cvF q x) := by
    unfold cvF
    by_cases z : x.1 = 0
    · rw [if_pos z]; exact h1
    · rw [if_neg z]; exact bzt_scl hq (dns_ne hq) h1
  rw [cvP_psf]
  exact bzt_sf _ (cv_is hq h).2.2.2.2.2.2.2.1 h2
theorem rg_bez {A : Type} [Lean.Grind.CommRing A] {P a b Pd u v m ud vd md hf : A} (e : P - v * v = u * m) (e2 : Pd = vd * v + v * vd + (ud * m + u * md)) (e3 : a * P + b * Pd = 1) (e4 : hf + hf = 1) : (a * m + b * md) * u + (hf * a * v + b * vd) * (v + v) + b * ud * m = 1 := by
  refine lin4 (c1 := -a) (c2 := -b) (c3 := 1) (c4 := a * v * v) e e2 e3 e4 ?_
  clear e e2 e3 e4
  grind
/-- in the ring of polynomials -/
theorem pol_bez {q : Nat} (hq : isP q) {P : PS q} (hP : isPol P) (h : bzt P) : @bez (Pol q) (polRing q) ⟨P, hP⟩ := by
  intro u v m e
  obtain ⟨a, b, ia, ib, e3⟩ := h
  obtain ⟨u, ⟨nu', hu⟩⟩ := u
  obtain ⟨v, ⟨nv, hv⟩⟩ := v
  obtain ⟨m, ⟨nm, hm⟩⟩ := m
  have e1 : psub P (pl_mul v v) = pl_mul u m := congrArg Subtype.val e
  have e2 : pder P = padd (padd (pl_mul (pder v) v) (pl_mul v (pder v))) (padd (pl_mul (pder u) m) (pl_mul u (pder m))) := by
    rw [← der_mul v hv, ← der_mul m hu, ← der_add, ← e1]
    congr 1
    funext k
    show P k = pl_mul v v k + (P k - pl_mul v v k)
    generalize pl_mul v v k = x
    grind
  have two : ∃ c : Fin (q + 1), c + c = 1 := by
    rcases hq with z | z | z | z | z <;> subst z <;> decide +kernel
  obtain ⟨hf, eh⟩ := two
  have e4 : padd (pl_c hf) (pl_c hf) = (pl_c 1 : PS q) := by
    rw [← eh]; exact (pl_c_add hf hf).symm
  have ip : ∀ {F : PS q} {n : Nat}, dl F n → isPol (pder F) := fun h => ⟨_, der_dl h⟩
  refine ⟨⟨padd (pl_mul a m) (pl_mul b (pder m)), ip_add (ip_mul ia ⟨_, hm⟩) (ip_mul ib (ip hm))⟩, ⟨padd (pl_mul (pl_mul (pl_c hf) a) v) (pl_mul b (pder v)), ip_add (ip_mul (ip_mul (ip_c _) ia) ⟨_, hv⟩) (ip_mul ib (ip hv))⟩, ⟨pl_mul b (pder u), ip_mul ib (ip hu)⟩, Subtype.ext ?_⟩
  exact @rg_bez (PS q) (serRing (Fin (q + 1))) P a b (pder P) u v m (pder u) (pder v) (pder m) (pl_c hf) e1 e2 e3 e4
