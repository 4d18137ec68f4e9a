/-! THE SUM of two classes -/
theorem pgx_dl {q K : Nat} (hq : isP q) : ∀ (d da : Nat) (a b x y : PS q), dl a (da + 1) → da ≤ K → dl b da → dl b d → dl x (K - da + 1) → dl y (K - da + 1) → dl (pgx d a b x y) (K + 1)
  | 0, da, a, b, x, y, ha, hda, hb, hbd, hx, hy => by
    rw [dl_zero hbd, pgx_z]
    exact dl_mono hx (by omega)
  | d + 1, da, a, b, x, y, ha, hda, hb, hbd, hx, hy => by
    by_cases c : b = pz
    · rw [c, pgx_z]; exact dl_mono hx (by omega)
    · obtain ⟨db, b1, b2⟩ := hd_top hb c
      have hlt : db < da := by
        rcases Nat.lt_or_ge db da with w | w
        · exact w
        · exact absurd (hb db w) b2
      have hlt2 : db ≤ d := by
        rcases Nat.lt_or_ge d db with w | w
        · exact absurd (hbd db w) b2
        · exact w
      obtain ⟨-, p2, p3, -⟩ := pqr_is hq ha b1 b2
      rw [pgx_s c]
      refine pgx_dl hq d db b (prem a b) y _ b1 (by omega) p3 (dl_mono p3 hlt2) (dl_mono hy (by omega)) ?_
      exact dl_sub (dl_mono hx (by omega)) (dl_mono (dl_mul p2 hy) (by omega))
theorem pcof_dl {q n : Nat} (hq : isP q) {a b : PS q} (ha : isPol a) (hb : dl b n) (h1 : 1 ≤ n) (h19 : n ≤ 18) : dl (pcof a b) n := by
  unfold pcof
  refine dl_scl ?_ _
  by_cases c : b = pz
  · rw [c, pgx_z]; exact dl_mono (pc_dl 1) h1
  · obtain ⟨db, b1, b2⟩ := hd_top hb c
    obtain ⟨na, ha⟩ := ha
    have hlt : db < n := by
      rcases Nat.lt_or_ge db n with w | w
      · exact w
      · exact absurd (hb db w) b2
    obtain ⟨-, p2, p3, -⟩ := pqr_is hq ha b1 b2
    rw [pgx_s c, pm_zr]
    refine dl_mono (pgx_dl hq (K := db) 18 db b (prem a b) pz _ b1 (Nat.le_refl _) p3 (dl_mono p3 (by omega)) (fun _ _ => rfl) (dl_sub (dl_mono (pc_dl 1) (by omega)) (fun _ _ => rfl))) (by omega)
theorem pcoy_dl {q n : Nat} (hq : isP q) {a b : PS q} (ha : dl a n) (hb : dl b n) (h1 : 1 ≤ n) (h19 : n ≤ 18) : dl (pcoy a b) n := by
  unfold pcoy
  refine dl_scl ?_ _
  by_cases c : b = pz
  · rw [c, pgx_z]; exact fun _ _ => rfl
  · obtain ⟨db, b1, b2⟩ := hd_top hb c
    have hlt : db < n := by
      rcases Nat.lt_or_ge db n with w | w
      · exact w
      · exact absurd (hb db w) b2
    obtain ⟨-, p2, p3, -⟩ := pqr_is hq ha b1 b2
    rw [pgx_s c]
    refine dl_mono (pgx_dl hq (K := n - 1) 18 db b (prem a b) _ _ b1 (by omega) p3 (dl_mono p3 (by omega)) (dl_mono (pc_dl 1) (by omega)) (dl_sub (fun _ _ => rfl) (dl_mono (dl_mul p2 (pc_dl 1)) (by omega)))) (by omega)
theorem pquo_mul {q : Nat} (hq : isP q) {s b : PS q} (hs : isPol s) (hb : isPol b) (b0 : b ≠ pz) : pquo (pl_mul s b) b = s ∧ prem (pl_mul s b) b = pz := by
  obtain ⟨n, hs⟩ := hs
  obtain ⟨m, hb⟩ := hb
  obtain ⟨db, b1, b2⟩ := hd_top hb b0
  exact pqr_at hq ⟨db, n, b1, b2, hs, fun _ _ => rfl, (padd_z _).symm⟩
noncomputable def smd {q : Nat} (u v w z : PS q) : PS q := pgcd (pgcd u w) (padd v z)
noncomputable def smW {q : Nat} (P u v w z : PS q) : PS q := padd (pl_mul (pcof (pgcd u w) (padd v z)) (padd (pl_mul (pl_mul (pcof u w) u) z) (pl_mul (pl_mul (pcoy u w) w) v))) (pl_mul (pcoy (pgcd u w) (padd v z)) (padd (pl_mul v z) P))
noncomputable def smU {q : Nat} (u v w z : PS q) : PS q := pquo (pl_mul u w) (pl_mul (smd u v w z) (smd u v w z))
noncomputable def smV {q : Nat} (P u v w z : PS q) : PS q := prem (pquo (smW P u v w z) (smd u v w z)) (smU u v w z)
noncomputable def rdU {q : Nat} (P U V : PS q) : PS q := pmon (pquo (psub P (pl_mul V V)) U)
noncomputable def rdV {q : Nat} (P U V : PS q) : PS q := prem (psub pz V) (rdU P U V)
noncomputable def smC {q : Nat} (P : PS q) (g : Nat) (x y : PS q × PS q) : PS q × PS q := if ptop (smU x.1 x.2 y.1 y.2) ≤ g then (smU x.1 x.2 y.1 y.2, smV P x.1 x.2 y.1 y.2) else (rdU P (smU x.1 x.2 y.1 y.2) (smV P x.1 x.2 y.1 y.2), rdV P (smU x.1 x.2 y.1 y.2) (smV P x.1 x.2 y.1 y.2))
theorem rg_d {A : Type} [Lean.Grind.CommRing A] {d ob b c vz ou u ow w : A} (h1 : d = ob * b + c * vz) (h2 : b = ou * u + ow * w) : d = (ob * ou) * u + (ob * ow) * w + c * vz := by
  rw [h1]
  refine lin1 (c1 := ob) h2 ?_
  clear h1 h2
  grind
theorem rg_w {A : Type} [Lean.Grind.CommRing A] {P u v m w z d su sw sb gg ob c ou ow b : A} (h1 : P - v * v = u * m) (hu : u = (su * sb) * d) (hw : w = (sw * sb) * d) (hg : v + z = gg * d) : ob * (ou * u * z + ow * w * v) + c * (v * z + P) = (ob * (ou * (su * sb) * z + ow * (sw * sb) * v) + c * ((su * sb) * m + v * gg)) * d := by
  refine lin4 (c1 := c) (c2 := c * m + ob * ou * z) (c3 := ob * ow * v) (c4 := c * v) h1 hu hw hg ?_
  clear h1 hu hw hg
  grind
theorem rg_w2 {A : Type} [Lean.Grind.CommRing A] {P u v w z d V0 ob c ou ow : A} (h : ob * (ou * u * z + ow * w * v) + c * (v * z + P) = V0 * d) : d * V0 = (ob * ou) * u * z + (ob * ow) * w * v + c * (v * z + P) := by
  refine lin1 (c1 := -1) h ?_
  clear h
  grind
theorem rg_u {A : Type} [Lean.Grind.CommRing A] {u w d u' w' : A} (hu : u = u' * d) (hw : w = w' * d) : u * w = (u' * w') * (d * d) := by
  rw [hu, hw]; clear hu hw; grind
theorem rg_m {A : Type} [Lean.Grind.CommRing A] {u su b sb d : A} (h1 : u = su * b) (h2 : b = sb * d) : u = (su * sb) * d := by
  rw [h1, h2]; clear h1 h2; grind
theorem rg_k {A : Type} [Lean.Grind.CommRing A] {V0 k U V : A} (h : V0 = k * U + V) : V0 = V + U * k := by
  rw [h]; clear h; grind
/-- a monic divisor of a monic one -/
theorem mon_quo {q d n : Nat} (hq : isP q) {u s b : PS q} (hu : dl u (d + 1)) (u1 : u d = 1) (hb : dl b (n + 1)) (b1 : b n = 1) (hs : isPol s) (e : u = pl_mul s b) : n ≤ d ∧ dl s (d - n + 1) ∧ s (d - n) = 1 := by
  obtain ⟨k, hs⟩ := hs
  have s0 : s ≠ pz := fun z => mon_ne hq u1 (by rw [e, z, pm_z])
  obtain ⟨ds, s1, s2⟩ := hd_top hs s0
  obtain ⟨t1, t2⟩ := ml_top hq s1 s2 hb (by rw [b1]; exact one_ne0 hq)
  rw [← e] at t1 t2
  have ed : d = ds + n := hd_uq ⟨hu, Or.inr (by rw [u1]; exact one_ne0 hq)⟩ ⟨t1, Or.inr t2⟩
  have ht := mul_top s1 hb
  rw [← e, ← ed, u1, b1] at ht
  refine ⟨by omega, by rw [show d - n = ds by omega]; exact s1, ?_⟩
  rw [show d - n = ds by omega]
  generalize s ds = y at *
  grind
/-- what the composition is -/
theorem sm_1 {q d g : Nat} (hq : isP q) {P : PS q} (hP : dl P (d + 1)) (hP0 : P d ≠ 0) (hodd : d % 2 = 1) (hb : bzt P) (hg : g ≤ 2) {u v w z : PS q} (hx : isC P g (u, v)) (hy : isC P g (w, z)) : ∃ dU, dU ≤ 2 * g ∧ dl (smU u v w z) (dU + 1) ∧ smU u v w z dU = 1 ∧ dl (smV P u v w z) dU ∧ (∃ m, isPol m ∧ psub P (pl_mul (smV P u v w z) (smV P u v w z)) = pl_mul (smU u v w z) m) ∧ ∀ (i1 : isPol u) (i2 : isPol v) (j1 : isPol w) (j2 : isPol z) (k1 : isPol (smU u v w z)) (k2 : isPol (smV P u v w z)), @eqv (Pol q) (polRing q) ⟨P, _, hP⟩ (@idl (Pol q) (polRing q) ⟨smU u v w z, k1⟩ ⟨smV P u v w z, k2⟩) (@prd (Pol q) (polRing q) ⟨P, _, hP⟩ (@idl (Pol q) (polRing q) ⟨u, i1⟩ ⟨v, i2⟩) (@idl (Pol q) (polRing q) ⟨w, j1⟩ ⟨z, j2⟩)) := by
  obtain ⟨du, h1, h2, h3, h4, m, im, h5⟩ := hx
  obtain ⟨dw, h1', h2', h3', h4', m2, im2, h5'⟩ := hy
  simp only at h2 h3 h4 h5 h2' h3' h4' h5'
  have u0 := mon_ne hq h3
  have w0 := mon_ne hq h3'
  have ip : isPol P := ⟨_, hP⟩
  have iu : isPol u := ⟨_, h2⟩
  have iv : isPol v := ⟨_, h4⟩
  have iw : isPol w := ⟨_, h2'⟩
  have iz : isPol z := ⟨_, h4'⟩
  obtain ⟨⟨su, isu, esu⟩, ⟨sw, isw, esw⟩, eb, iou, iow, nb, b1, b2⟩ := gcd_is hq iu (dl_mono h2' (by omega)) (Or.inl u0)
  have b0 := mon_ne hq b2
  obtain ⟨⟨sb, isb, esb⟩, ⟨gg, igg, egg⟩, ed, iob, ioc, nd, d1, d2⟩ := gcd_is hq ⟨_, b1⟩ (b := padd v z) (dl_mono (dl_add (dl_mono h4 (show du ≤ 2 by omega)) (dl_mono h4' (show dw ≤ 2 by omega))) (by omega)) (Or.inl b0)
  have d0 := mon_ne hq d2
  have ebb : smd u v w z = pgcd (pgcd u w) (padd v z) := rfl
  have eW : smW P u v w z = padd (pl_mul (pcof (pgcd u w) (padd v z)) (padd (pl_mul (pl_mul (pcof u w) u) z) (pl_mul (pl_mul (pcoy u w) w) v))) (pl_mul (pcoy (pgcd u w) (padd v z)) (padd (pl_mul v z) P)) := rfl
  have eU : smU u v w z = pquo (pl_mul u w) (pl_mul (smd u v w z) (smd u v w z)) := rfl
  have eV : smV P u v w z = prem (pquo (smW P u v w z) (smd u v w z)) (smU u v w z) := rfl
  rw [← ebb] at esb egg ed d1 d2 d0
  generalize smd u v w z = D at *
  generalize pcof (pgcd u w) (padd v z) = ob at *
  generalize pcoy (pgcd u w) (padd v z) = oc at *
  generalize pcof u w = ou at *
  generalize pcoy u w = ow at *
  generalize pgcd u w = B at *
  generalize smW P u v w z = W at *
  generalize smU u v w z = U at *
  generalize smV P u v w z = V at *
  have iD : isPol D := ⟨_, d1⟩
  have eu' : u = pl_mul (pl_mul su sb) D := @rg_m (PS q) (serRing (Fin (q + 1))) u su B sb D esu esb
  have ew' : w = pl_mul (pl_mul sw sb) D := @rg_m (PS q) (serRing (Fin (q + 1))) w sw B sb D esw esb
  have iu' : isPol (pl_mul su sb) := ip_mul isu isb
  have iw' : isPol (pl_mul sw sb) := ip_mul isw isb
  have eW2 := @rg_w (PS q) (serRing (Fin (q + 1))) P u v m w z D su sw sb gg ob oc ou ow B h5 eu' ew' egg
  -- the quotient of the whole
  obtain ⟨V0, eV0⟩ : ∃ V0, V0 = padd (pl_mul ob (padd (pl_mul (pl_mul ou (pl_mul su sb)) z) (pl_mul (pl_mul ow (pl_mul sw sb)) v))) (pl_mul oc (padd (pl_mul (pl_mul su sb) m) (pl_mul v gg))) := ⟨_, rfl⟩
  have iV0 : isPol V0 := by
    rw [eV0]
    exact ip_add (ip_mul iob (ip_add (ip_mul (ip_mul iou iu') iz) (ip_mul (ip_mul iow iw') iv))) (ip_mul ioc (ip_add (ip_mul iu' im) (ip_mul iv igg)))
  have eW3 : W = pl_mul V0 D := by
    rw [eW, eV0]; exact eW2
  have q1 : pquo W D = V0 := by rw [eW3]; exact (pquo_mul hq iV0 iD d0).1
  have eUU : U = pl_mul (pl_mul su sb) (pl_mul sw sb) := by
    have euw : pl_mul u w = pl_mul (pl_mul (pl_mul su sb) (pl_mul sw sb)) (pl_mul D D) := @rg_u (PS q) (serRing (Fin (q + 1))) u w D _ _ eu' ew'
    rw [eU, euw]
    refine (pquo_mul hq (ip_mul iu' iw') (ip_mul iD iD) (fun z => ?_)).1
    rcases pm_ne hq d1 d1 z with z | z <;> exact d0 z
  obtain ⟨a1, a2, a3⟩ := mon_quo hq h2 h3 d1 d2 iu' eu'
  obtain ⟨c1, c2, c3⟩ := mon_quo hq h2' h3' d1 d2 iw' ew'
  have U1 : dl U (du - nd + (dw - nd) + 1) := by rw [eUU]; exact dl_mono (dl_mul a2 c2) (by omega)
  have U2 : U (du - nd + (dw - nd)) = 1 := by
    rw [eUU, mul_top a2 c2, a3, c3]; grind
  have U0 := mon_ne hq U2
  have iU : isPol U := ⟨_, U1⟩
  rw [q1] at eV
  have V1 : dl V (du - nd + (dw - nd)) := by
    obtain ⟨n0, iV0⟩ := iV0
    rw [eV]; exact (pqr_is hq iV0 U1 (by rw [U2]; exact one_ne0 hq)).2.2.1
  obtain ⟨eq1, iq, -⟩ := dv hq iV0 iU U0
  rw [← eV] at eq1
  have hk := @rg_k (PS q) (serRing (Fin (q + 1))) V0 (pquo V0 U) U V eq1
  have hdd := @rg_d (PS q) (serRing (Fin (q + 1))) D ob B oc (padd v z) ou u ow w ed eb
  have hV := @rg_w2 (PS q) (serRing (Fin (q + 1))) P u v w z D V0 ob oc ou ow (eW.symm.trans eW3)
  have key := @cmp_eq (Pol q) (polRing q) ⟨P, ip⟩ ⟨u, iu⟩ ⟨v, iv⟩ ⟨m, im⟩ ⟨w, iw⟩ ⟨z, iz⟩ ⟨m2, im2⟩ ⟨D, iD⟩ ⟨pl_mul ob ou, ip_mul iob iou⟩ ⟨pl_mul ob ow, ip_mul iob iow⟩ ⟨oc, ioc⟩ ⟨pl_mul su sb, iu'⟩ ⟨pl_mul sw sb, iw'⟩ ⟨gg, igg⟩ ⟨V0, iV0⟩ ⟨V, _, V1⟩ ⟨U, iU⟩ ⟨pquo V0 U, iq⟩ (pol_dmn hq hP hP0 hodd) (pol_bez hq _ hb) (Subtype.ext h5) (Subtype.ext h5') (Subtype.ext hdd) (Subtype.ext eu') (Subtype.ext ew') (Subtype.ext egg) (Subtype.ext hV) (Subtype.ext eUU) (Subtype.ext hk) (fun z => d0 ((congrArg Subtype.val z).trans (pol_0 q))) (fun z => u0 ((congrArg Subtype.val z).trans (pol_0 q))) (fun z => w0 ((congrArg Subtype.val z).trans (pol_0 q)))
  obtain ⟨k1, ⟨m3, im3⟩, k2⟩ := key
  refine ⟨du - nd + (dw - nd), by omega, U1, U2, V1, ⟨m3, im3, congrArg Subtype.val k2⟩, fun i1 i2 j1 j2 l1 l2 => ?_⟩
  have e := @eqv_scl (Pol q) (polRing q) ⟨P, ip⟩ ⟨D, iD⟩ (@OfNat.ofNat (Pol q) 0 ((polRing q).ofNat 0)) (pol_dmn hq hP hP0 hodd) (fun z => d0 ((congrArg Subtype.val z.1).trans (pol_0 q))) (@idl (Pol q) (polRing q) ⟨U, iU⟩ ⟨V, _, V1⟩)
  rw [← k1] at e
  exact @eqv_sym (Pol q) (polRing q) _ _ _ e
