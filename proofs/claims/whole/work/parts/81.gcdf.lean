/-! what the greatest common divisor is -/
def isPol {q : Nat} (f : PS q) : Prop := ∃ n, dl f n
theorem ip_dl {q n : Nat} {f : PS q} (h : dl f n) : isPol f := ⟨n, h⟩
theorem ip_mul {q : Nat} {f g : PS q} (hf : isPol f) (hg : isPol g) : isPol (pl_mul f g) := by
  obtain ⟨a, ha⟩ := hf
  obtain ⟨b, hb⟩ := hg
  exact ⟨_, dl_mul ha hb⟩
theorem ip_add {q : Nat} {f g : PS q} (hf : isPol f) (hg : isPol g) : isPol (padd f g) := by
  obtain ⟨a, ha⟩ := hf
  obtain ⟨b, hb⟩ := hg
  exact ⟨a + b, dl_add (dl_mono ha (by omega)) (dl_mono hb (by omega))⟩
theorem ip_sub {q : Nat} {f g : PS q} (hf : isPol f) (hg : isPol g) : isPol (psub f g) := by
  obtain ⟨a, ha⟩ := hf
  obtain ⟨b, hb⟩ := hg
  exact ⟨a + b, dl_sub (dl_mono ha (by omega)) (dl_mono hb (by omega))⟩
theorem ip_z {q : Nat} : isPol (pz : PS q) := ⟨0, fun _ _ => rfl⟩
theorem ip_c {q : Nat} (c : Fin (q + 1)) : isPol (pl_c c : PS q) := ⟨1, pc_dl c⟩
theorem ip_scl {q : Nat} {f : PS q} (hf : isPol f) (c : Fin (q + 1)) : isPol (pscl f c) := by
  obtain ⟨a, ha⟩ := hf
  exact ⟨a, dl_scl ha c⟩
theorem hd_top {q n : Nat} {f : PS q} (h : dl f n) (h0 : f ≠ pz) : ∃ d, dl f (d + 1) ∧ f d ≠ 0 := by
  obtain ⟨d, hd, hz⟩ := hd_ex h
  rcases hz with z | z
  · exact ⟨d, hd.1, z⟩
  · exact absurd z h0
/-- division, with rest -/
theorem dv {q : Nat} (hq : isP q) {a b : PS q} (ha : isPol a) (hb : isPol b) (hb0 : b ≠ pz) : a = padd (pl_mul (pquo a b) b) (prem a b) ∧ isPol (pquo a b) ∧ isPol (prem a b) := by
  obtain ⟨m, hm⟩ := ha
  obtain ⟨n, hn⟩ := hb
  obtain ⟨d, h1, h2⟩ := hd_top hn hb0
  obtain ⟨-, q1, q2, q3⟩ := pqr_is hq hm h1 h2
  exact ⟨q3, ⟨_, q1⟩, ⟨_, q2⟩⟩
theorem pge_div {q : Nat} (hq : isP q) : ∀ (d : Nat) (a b : PS q), isPol a → dl b d → (∃ s, isPol s ∧ a = pl_mul s (pge d a b)) ∧ (∃ s, isPol s ∧ b = pl_mul s (pge d a b)) ∧ isPol (pge d a b) := by
  intro d
  induction d with
  | zero =>
    intro a b ha hb
    have hz := dl_zero hb
    subst hz
    rw [pge_z]
    exact ⟨⟨pl_c 1, ip_c 1, by rw [pl_mul_comm, pm_one]⟩, ⟨pz, ip_z, (pm_z a).symm⟩, ha⟩
  | succ d ih =>
    intro a b ha hb
    by_cases hz : b = pz
    · subst hz
      rw [pge_z]
      exact ⟨⟨pl_c 1, ip_c 1, by rw [pl_mul_comm, pm_one]⟩, ⟨pz, ip_z, (pm_z a).symm⟩, ha⟩
    · rw [pge_s hz]
      obtain ⟨m, hm⟩ := ha
      have hr := prem_dl hq hm hb hz
      obtain ⟨e, p1, p2⟩ := dv hq ⟨m, hm⟩ ⟨_, hb⟩ hz
      obtain ⟨⟨s1, i1, e1⟩, ⟨s2, i2, e2⟩, i3⟩ := ih b (prem a b) ⟨_, hb⟩ hr
      refine ⟨⟨padd (pl_mul (pquo a b) s1) s2, ip_add (ip_mul p1 i1) i2, ?_⟩, ⟨s1, i1, e1⟩, i3⟩
      rw [pm_addr, pl_mul_assoc, ← e1, ← e2]
      exact e
theorem pgx_lin {q : Nat} (hq : isP q) {A B : PS q} : ∀ (d : Nat) (a b x x' y y' : PS q), isPol a → dl b d → isPol x → isPol x' → isPol y → isPol y' → a = padd (pl_mul x A) (pl_mul y B) → b = padd (pl_mul x' A) (pl_mul y' B) → pge d a b = padd (pl_mul (pgx d a b x x') A) (pl_mul (pgx d a b y y') B) ∧ isPol (pgx d a b x x') ∧ isPol (pgx d a b y y') := by
  intro d
  induction d with
  | zero =>
    intro a b x x' y y' ha hb hx hx' hy hy' e1 e2
    have hz := dl_zero hb
    subst hz
    rw [pge_z, pgx_z, pgx_z]
    exact ⟨e1, hx, hy⟩
  | succ d ih =>
    intro a b x x' y y' ha hb hx hx' hy hy' e1 e2
    by_cases hz : b = pz
    · subst hz
      rw [pge_z, pgx_z, pgx_z]
      exact ⟨e1, hx, hy⟩
    · rw [pge_s hz, pgx_s hz, pgx_s hz]
      obtain ⟨m, hm⟩ := ha
      have hr := prem_dl hq hm hb hz
      obtain ⟨e, p1, p2⟩ := dv hq ⟨m, hm⟩ ⟨_, hb⟩ hz
      refine ih b (prem a b) x' _ y' _ ⟨_, hb⟩ hr hx' (ip_sub hx (ip_mul p1 hx')) hy' (ip_sub hy (ip_mul p1 hy')) e2 ?_
      rw [pm_subr, pm_subr, pl_mul_assoc, pl_mul_assoc]
      funext i
      have h1 := congrFun e i
      have h2 := congrFun e1 i
      have h3 : pl_mul (pquo a b) b i = pl_mul (pquo a b) (padd (pl_mul x' A) (pl_mul y' B)) i := by rw [← e2]
      rw [pm_add] at h3
      have h1 : a i = pl_mul (pquo a b) b i + prem a b i := h1
      have h2 : a i = pl_mul x A i + pl_mul y B i := h2
      have h3 : pl_mul (pquo a b) b i = pl_mul (pquo a b) (pl_mul x' A) i + pl_mul (pquo a b) (pl_mul y' B) i := h3
      show prem a b i = (pl_mul x A i - pl_mul (pquo a b) (pl_mul x' A) i) + (pl_mul y B i - pl_mul (pquo a b) (pl_mul y' B) i)
      grind
theorem pscl_mul {q : Nat} (f g : PS q) (c : Fin (q + 1)) : pl_mul (pscl f c) g = pscl (pl_mul f g) c := by
  funext n
  show ps_ (fun i => f i * c * g (n - i)) (n + 1) = ps_ (fun i => f i * g (n - i)) (n + 1) * c
  rw [← ps_mulR]
  exact ps_cong (fun k _ => by grind)
theorem pscl_mulR {q : Nat} (f g : PS q) (c : Fin (q + 1)) : pl_mul f (pscl g c) = pscl (pl_mul f g) c := by
  rw [pl_mul_comm, pscl_mul, pl_mul_comm]
theorem pscl_inv {q : Nat} (hq : isP q) (f : PS q) {c : Fin (q + 1)} (hc : c ≠ 0) : pscl (pscl f (fiv q c)) c = f := by
  funext n
  have := fiv_mul hq hc
  show f n * fiv q c * c = f n
  grind
theorem fiv_ne {q : Nat} (hq : isP q) {c : Fin (q + 1)} (hc : c ≠ 0) : fiv q c ≠ 0 := fun z => by
  have := fiv_mul hq hc
  rw [z] at this
  have h2 : (0 : Fin (q + 1)) = 1 := by grind
  have h3 := congrArg Fin.val h2
  have hl := isP_lo hq
  have e : (1 : Fin (q + 1)).val = 1 := by show 1 % (q + 1) = 1; rw [Nat.mod_eq_of_lt (by omega)]
  rw [e] at h3
  exact absurd h3 (by show ¬ 0 = 1; omega)
/-- made monic: a first coefficient of 1, the same divisors -/
theorem pmon_is {q n : Nat} (hq : isP q) {f : PS q} (h : dl f (n + 1)) (h0 : f n ≠ 0) : dl (pmon f) (n + 1) ∧ pmon f n = 1 ∧ f = pscl (pmon f) (f n) ∧ pmon f = pscl f (fiv q (f n)) := by
  have e : ptop f = n := ptop_at ⟨h, Or.inr h0⟩
  unfold pmon
  rw [e]
  refine ⟨dl_scl h _, ?_, ?_, rfl⟩
  · show f n * fiv q (f n) = 1
    exact fiv_mul hq h0
  · rw [pscl_inv hq f h0]
/-- the gcd: divides both, and is made of both; with 1 as its first coefficient -/
theorem gcd_is {q : Nat} (hq : isP q) {a b : PS q} (ha : isPol a) (hb : dl b 19) (h0 : a ≠ pz ∨ b ≠ pz) : (∃ s, isPol s ∧ a = pl_mul s (pgcd a b)) ∧ (∃ s, isPol s ∧ b = pl_mul s (pgcd a b)) ∧ pgcd a b = padd (pl_mul (pcof a b) a) (pl_mul (pcoy a b) b) ∧ isPol (pcof a b) ∧ isPol (pcoy a b) ∧ ∃ n, dl (pgcd a b) (n + 1) ∧ pgcd a b n = 1 := by
  obtain ⟨⟨s1, i1, e1⟩, ⟨s2, i2, e2⟩, n, i3⟩ := pge_div hq 19 a b ha hb
  have hG : pge 19 a b ≠ pz := fun z => by
    rw [z, pm_zr] at e1 e2
    rcases h0 with w | w
    · exact w e1
    · exact w e2
  obtain ⟨d, d1, d2⟩ := hd_top i3 hG
  obtain ⟨m1, m2, m3, m4⟩ := pmon_is hq d1 d2
  obtain ⟨l1, l2, l3⟩ := pgx_lin (A := a) (B := b) hq 19 a b (pl_c 1) pz pz (pl_c 1) ha hb (ip_c 1) ip_z ip_z (ip_c 1) (by rw [pm_z, pl_mul_comm, pm_one, padd_z]) (by rw [pm_z, pl_mul_comm, pm_one, padd_zl])
  have et : ptop (pge 19 a b) = d := ptop_at ⟨d1, Or.inr d2⟩
  refine ⟨⟨pscl s1 (pge 19 a b d), ip_scl i1 _, ?_⟩, ⟨pscl s2 (pge 19 a b d), ip_scl i2 _, ?_⟩, ?_, ip_scl l2 _, ip_scl l3 _, d, m1, m2⟩
  · unfold pgcd
    rw [pscl_mul, ← pscl_mulR, ← m3]; exact e1
  · unfold pgcd
    rw [pscl_mul, ← pscl_mulR, ← m3]; exact e2
  · unfold pgcd pcof pcoy pfl
    rw [m4, pscl_mul, pscl_mul, et]
    funext i
    have := congrFun l1 i
    have : pge 19 a b i = pl_mul (pgx 19 a b (pl_c 1) pz) a i + pl_mul (pgx 19 a b pz (pl_c 1)) b i := this
    show pge 19 a b i * fiv q (pge 19 a b d) = pl_mul (pgx 19 a b (pl_c 1) pz) a i * fiv q (pge 19 a b d) + pl_mul (pgx 19 a b pz (pl_c 1)) b i * fiv q (pge 19 a b d)
    rw [this]; grind
theorem one_ne0 {q : Nat} (hq : isP q) : (1 : Fin (q + 1)) ≠ 0 := fun z => one_ne hq (funext fun i => by show (if i = 0 then (1 : Fin (q + 1)) else 0) = 0; split; exact z; rfl)
theorem gcd_ne {q : Nat} (hq : isP q) {a b : PS q} (ha : isPol a) (hb : dl b 19) (h0 : a ≠ pz ∨ b ≠ pz) : pgcd a b ≠ pz := fun z => by
  obtain ⟨-, -, -, -, -, n, -, h2⟩ := gcd_is hq ha hb h0
  rw [z] at h2
  exact one_ne0 hq h2.symm
theorem pn_ne0 {q a n : Nat} (ha : a < (q + 1) ^ n) (h0 : 0 < a) : pn q a ≠ pz := fun z => by
  have := nu_pn ha
  rw [z, nu_zero (f := pz) (fun _ _ => rfl)] at this
  omega
/-- f without KNOT, of degree 3 .. 6 -/
theorem knot_ne {q x : Nat} (hq : isP q) (hx : x < (q + 1) ^ 7) (h0 : 0 < x) : pgcd (pn q x) (pder (pn q x)) ≠ pz :=
  gcd_ne hq ⟨7, pn_dl hx⟩ (dl_mono (der_dl (pn_dl hx)) (by omega)) (Or.inl (pn_ne0 hx h0))
