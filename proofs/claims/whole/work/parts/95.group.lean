/-! degrees: no divisors of 0, one of a small degree -/
theorem sq_top {q d : Nat} (hq : isP q) {a : PS q} (h : dl a (d + 1)) (h0 : a d ≠ 0) : dl (pl_mul a a) (2 * d + 1) ∧ pl_mul a a (2 * d) ≠ 0 := by
  refine ⟨dl_mono (dl_mul h h) (by omega), fun z => ?_⟩
  rw [show 2 * d = d + d by omega, mul_top h h] at z
  rcases fin_dom hq z with z | z <;> exact h0 z
theorem ml_top {q d e : Nat} (hq : isP q) {a b : PS q} (h : dl a (d + 1)) (h0 : a d ≠ 0) (h' : dl b (e + 1)) (h0' : b e ≠ 0) : dl (pl_mul a b) (d + e + 1) ∧ pl_mul a b (d + e) ≠ 0 := by
  refine ⟨dl_mono (dl_mul h h') (by omega), fun z => ?_⟩
  rw [mul_top h h'] at z
  rcases fin_dom hq z with z | z
  · exact h0 z
  · exact h0' z
/-- the norm of c + e y has a degree of d or more, if e is not 0 -/
theorem nrm_top {q d : Nat} (hq : isP q) {P c e : PS q} (hP : dl P (d + 1)) (hP0 : P d ≠ 0) (hodd : d % 2 = 1) (hc : isPol c) (he : isPol e) (e0 : e ≠ pz) : ∃ k, d ≤ k ∧ dl (psub (pl_mul c c) (pl_mul (pl_mul e e) P)) (k + 1) ∧ psub (pl_mul c c) (pl_mul (pl_mul e e) P) k ≠ 0 := by
  obtain ⟨ne, he⟩ := he
  obtain ⟨de, e1, e2⟩ := hd_top he e0
  obtain ⟨s1, s2⟩ := sq_top hq e1 e2
  obtain ⟨t1, t2⟩ := ml_top hq s1 s2 hP hP0
  by_cases c0 : c = pz
  · refine ⟨2 * de + d, by omega, ?_, ?_⟩
    · rw [c0, pm_z]
      exact dl_sub (fun _ _ => rfl) t1
    · rw [c0, pm_z]
      intro z
      apply t2
      have z : (0 : Fin (q + 1)) - pl_mul (pl_mul e e) P (2 * de + d) = 0 := z
      generalize pl_mul (pl_mul e e) P (2 * de + d) = y at *
      grind
  · obtain ⟨nc, hc⟩ := hc
    obtain ⟨dc, c1, c2⟩ := hd_top hc c0
    obtain ⟨r1, r2⟩ := sq_top hq c1 c2
    rcases Nat.lt_or_ge (2 * dc) (2 * de + d) with w | w
    · refine ⟨2 * de + d, by omega, dl_sub (dl_mono r1 (by omega)) t1, fun z => t2 ?_⟩
      have z : pl_mul c c (2 * de + d) - pl_mul (pl_mul e e) P (2 * de + d) = 0 := z
      rw [r1 _ (by omega)] at z
      generalize pl_mul (pl_mul e e) P (2 * de + d) = y at *
      grind
    · have w2 : 2 * de + d < 2 * dc := by omega
      refine ⟨2 * dc, by omega, dl_sub r1 (dl_mono t1 (by omega)), fun z => r2 ?_⟩
      have z : pl_mul c c (2 * dc) - pl_mul (pl_mul e e) P (2 * dc) = 0 := z
      rw [t1 _ (by omega)] at z
      generalize pl_mul c c (2 * dc) = y at *
      grind
theorem pol_ext {q : Nat} {a b : Pol q} (h : a.1 = b.1) : a = b := Subtype.ext h
theorem pol_z {q : Nat} {a : Pol q} (h : a.1 = pz) : a = @OfNat.ofNat (Pol q) 0 ((polRing q).ofNat 0) := Subtype.ext (h.trans (pol_0 q).symm)
theorem pol_dmn {q d : Nat} (hq : isP q) {P : PS q} (hP : dl P (d + 1)) (hP0 : P d ≠ 0) (hodd : d % 2 = 1) : @dmn (Pol q) (polRing q) ⟨P, _, hP⟩ := by
  refine ⟨fun a b h => ?_, fun a b h => ?_, fun h => ?_⟩
  · obtain ⟨a, na, ha⟩ := a
    obtain ⟨b, nb, hb⟩ := b
    have h1 : pl_mul a b = pz := (congrArg Subtype.val h).trans (pol_0 q)
    rcases pm_ne hq ha hb h1 with z | z
    · exact Or.inl (pol_z z)
    · exact Or.inr (pol_z z)
  · obtain ⟨a, na, ha⟩ := a
    obtain ⟨b, nb, hb⟩ := b
    have h1 : pl_mul a a = pl_mul (pl_mul b b) P := congrArg Subtype.val h
    have b0 : b = pz := by
      by_cases c : b = pz
      · exact c
      · obtain ⟨k, -, -, h3⟩ := nrm_top hq hP hP0 hodd ⟨_, ha⟩ ⟨_, hb⟩ c
        rw [h1, psub_self] at h3
        exact absurd rfl h3
    refine ⟨pol_z ?_, pol_z b0⟩
    rw [b0, pm_z, pm_z] at h1
    rcases pm_ne hq ha ha h1 with z | z <;> exact z
  · have : (pl_c 1 : PS q) = pz := (congrArg Subtype.val h).trans (pol_0 q)
    exact one_ne hq this
theorem pol_deg {q d du du' : Nat} (hq : isP q) {P u u' : PS q} (hP : dl P (d + 1)) (hP0 : P d ≠ 0) (hodd : d % 2 = 1) (hu : dl u (du + 1)) (hu' : dl u' (du' + 1)) (u0 : u ≠ pz) (u0' : u' ≠ pz) (hlt : du + du' < d) : letI := polRing q; ∀ c e x : Pol q, (c * c - e * e * (⟨P, _, hP⟩ : Pol q)) * x = (⟨u, _, hu⟩ : Pol q) * (⟨u', _, hu'⟩ : Pol q) → e = 0 := by
  intro c e x h
  obtain ⟨c, hc⟩ := c
  obtain ⟨e, he⟩ := e
  obtain ⟨x, nx, hx⟩ := x
  have h1 : pl_mul (psub (pl_mul c c) (pl_mul (pl_mul e e) P)) x = pl_mul u u' := congrArg Subtype.val h
  refine pol_z ?_
  show e = pz
  by_cases e0 : e = pz
  · exact e0
  · exfalso
    obtain ⟨k, hk, k1, k2⟩ := nrm_top hq hP hP0 hodd hc he e0
    have x0 : x ≠ pz := fun z => by
      rw [z, pm_zr] at h1
      rcases pm_ne hq hu hu' h1.symm with z | z
      · exact u0 z
      · exact u0' z
    obtain ⟨dx, x1, x2⟩ := hd_top hx x0
    obtain ⟨-, t2⟩ := ml_top hq k1 k2 x1 x2
    rw [h1, dl_mul hu hu' _ (by omega)] at t2
    exact t2 rfl
/-! classes, said of polynomials -/
/-- (u, v) is a CLASS -/
def isC {q : Nat} (P : PS q) (g : Nat) (x : PS q × PS q) : Prop := ∃ du, du ≤ g ∧ dl x.1 (du + 1) ∧ x.1 du = 1 ∧ dl x.2 du ∧ ∃ m, isPol m ∧ psub P (pl_mul x.2 x.2) = pl_mul x.1 m
theorem mon_ne {q d : Nat} (hq : isP q) {u : PS q} (h : u d = 1) : u ≠ pz := fun z => by
  rw [z] at h
  exact one_ne0 hq h.symm
def idC {q : Nat} (x : PS q × PS q) (h1 : isPol x.1) (h2 : isPol x.2) : Pol q → Pol q → Prop := @idl (Pol q) (polRing q) ⟨x.1, h1⟩ ⟨x.2, h2⟩
theorem mon_dvd {q d d' : Nat} (hq : isP q) {u u' s s' : PS q} (hu : dl u (d + 1)) (u1 : u d = 1) (hu' : dl u' (d' + 1)) (u1' : u' d' = 1) (hs : isPol s) (hs' : isPol s') (e1 : u = pl_mul u' s) (e2 : u' = pl_mul u s') : u = u' := by
  have u0 := mon_ne hq u1
  have u0' := mon_ne hq u1'
  obtain ⟨n, hs⟩ := hs
  obtain ⟨n', hs'⟩ := hs'
  have s0 : s ≠ pz := fun z => u0 (by rw [e1, z, pm_zr])
  have s0' : s' ≠ pz := fun z => u0' (by rw [e2, z, pm_zr])
  obtain ⟨ds, a1, a2⟩ := hd_top hs s0
  obtain ⟨ds', b1, b2⟩ := hd_top hs' s0'
  have o1 : u d ≠ 0 := by rw [u1]; exact one_ne0 hq
  have o1' : u' d' ≠ 0 := by rw [u1']; exact one_ne0 hq
  obtain ⟨t1, t2⟩ := ml_top hq hu' o1' a1 a2
  obtain ⟨t3, t4⟩ := ml_top hq hu o1 b1 b2
  rw [← e1] at t1 t2
  rw [← e2] at t3 t4
  have k1 : d' + ds ≤ d := by
    rcases Nat.lt_or_ge d (d' + ds) with w | w
    · exact absurd (hu _ (by omega)) t2
    · exact w
  have k2 : d + ds' ≤ d' := by
    rcases Nat.lt_or_ge d' (d + ds') with w | w
    · exact absurd (hu' _ (by omega)) t4
    · exact w
  have z1 : ds = 0 := by omega
  subst z1
  have ed : d = d' := by omega
  subst ed
  have htop : u d = u' d * s 0 := by
    have := mul_top hu' a1
    rw [← e1] at this
    exact this
  rw [u1, u1'] at htop
  have es : s = pl_c 1 := by
    funext k
    show s k = if k = 0 then 1 else 0
    by_cases z : k = 0
    · rw [if_pos z, z]
      generalize s 0 = y at *
      grind
    · rw [if_neg z]; exact a1 k (by omega)
  rw [e1, es, pl_mul_comm, pm_oneL]
/-- of those that are alike there is one CLASS -/
theorem cl_uniq {q d g : Nat} (hq : isP q) {P : PS q} (hP : dl P (d + 1)) (hP0 : P d ≠ 0) (hodd : d % 2 = 1) (hb : bzt P) (hg : 2 * g < d) {x y : PS q × PS q} (hx : isC P g x) (hy : isC P g y) (i1 : isPol x.1) (i2 : isPol x.2) (j1 : isPol y.1) (j2 : isPol y.2) (he : @eqv (Pol q) (polRing q) ⟨P, _, hP⟩ (idC x i1 i2) (idC y j1 j2)) : x = y := by
  obtain ⟨u, v⟩ := x
  obtain ⟨u', v'⟩ := y
  obtain ⟨du, h1, h2, h3, h4, m, im, h5⟩ := hx
  obtain ⟨du', h1', h2', h3', h4', m', im', h5'⟩ := hy
  simp only at h2 h3 h4 h5 h2' h3' h4' h5'
  have u0 := mon_ne hq h3
  have u0' := mon_ne hq h3'
  have key := @idl_uniq (Pol q) (polRing q) ⟨P, _, hP⟩ ⟨u, _, h2⟩ ⟨v, _, h4⟩ ⟨m, im⟩ ⟨u', _, h2'⟩ ⟨v', _, h4'⟩ ⟨m', im'⟩ (pol_dmn hq hP hP0 hodd) (pol_bez hq _ hb) (Subtype.ext h5) (Subtype.ext h5') (fun z => u0 ((congrArg Subtype.val z).trans (pol_0 q))) (fun z => u0' ((congrArg Subtype.val z).trans (pol_0 q))) (pol_deg hq hP hP0 hodd h2 h2' u0 u0' (by omega)) he
  -- u lies in the other one, and so on
  have k1 : @idl (Pol q) (polRing q) ⟨u', _, h2'⟩ ⟨v', _, h4'⟩ ⟨u, _, h2⟩ ⟨pz, 0, fun _ _ => rfl⟩ := by
    rw [← key]
    refine ⟨⟨pl_c 1, _, pc_dl 1⟩, Subtype.ext ?_⟩
    show padd u (pl_mul pz v) = pl_mul u (pl_c 1)
    rw [pm_z, padd_z, pl_mul_comm, pm_oneL]
  have k2 : @idl (Pol q) (polRing q) ⟨u, _, h2⟩ ⟨v, _, h4⟩ ⟨u', _, h2'⟩ ⟨pz, 0, fun _ _ => rfl⟩ := by
    rw [key]
    refine ⟨⟨pl_c 1, _, pc_dl 1⟩, Subtype.ext ?_⟩
    show padd u' (pl_mul pz v') = pl_mul u' (pl_c 1)
    rw [pm_z, padd_z, pl_mul_comm, pm_oneL]
  have k3 : @idl (Pol q) (polRing q) ⟨u', _, h2'⟩ ⟨v', _, h4'⟩ ⟨psub pz v, _, dl_sub (fun _ _ => rfl) h4⟩ ⟨pl_c 1, _, pc_dl 1⟩ := by
    rw [← key]
    refine ⟨⟨pz, 0, fun _ _ => rfl⟩, Subtype.ext ?_⟩
    show padd (psub pz v) (pl_mul (pl_c 1) v) = pl_mul u pz
    rw [pm_oneL, padd_psub, pm_zr]
  obtain ⟨⟨s, is⟩, e1⟩ := k1
  obtain ⟨⟨s', is'⟩, e2⟩ := k2
  obtain ⟨⟨w, ⟨nw, iw⟩⟩, e3⟩ := k3
  have f1 : padd u (pl_mul pz v') = pl_mul u' s := congrArg Subtype.val e1
  have f2 : padd u' (pl_mul pz v) = pl_mul u s' := congrArg Subtype.val e2
  have f3 : padd (psub pz v) (pl_mul (pl_c 1) v') = pl_mul u' w := congrArg Subtype.val e3
  clear e1 e2 e3 key he
  rw [pm_z, padd_z] at f1 f2
  rw [pm_oneL] at f3
  have eu := mon_dvd hq h2 h3 h2' h3' is is' f1 f2
  subst eu
  have ed : du = du' := by
    have o1 : u du ≠ 0 := by rw [h3]; exact one_ne0 hq
    have o2 : u du' ≠ 0 := by rw [h3']; exact one_ne0 hq
    exact hd_uq ⟨h2, Or.inr o1⟩ ⟨h2', Or.inr o2⟩
  subst ed
  have ew : w = pz := by
    by_cases c : w = pz
    · exact c
    · exfalso
      obtain ⟨dw, w1, w2⟩ := hd_top iw c
      obtain ⟨-, t2⟩ := ml_top hq h2 (by rw [h3]; exact one_ne0 hq) w1 w2
      rw [← f3] at t2
      refine t2 (dl_add (dl_sub (fun _ _ => rfl) h4) h4' _ (by omega))
  rw [ew, pm_zr] at f3
  congr 1
  funext k
  have := congrFun f3 k
  have this : (0 : Fin (q + 1)) - v k + v' k = 0 := this
  generalize v k = a at *
  generalize v' k = b at *
  grind
