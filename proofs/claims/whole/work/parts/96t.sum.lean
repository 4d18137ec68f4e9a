/-! THE SUM: brought down -/
theorem rg_r1 {A : Type} [Lean.Grind.CommRing A] {P V U M M' c k V' : A} (h1 : P - V * V = U * M) (h2 : M = M' * c) (h3 : 0 - V = k * M' + V') : P - V' * V' = M' * (U * c - (V + V) * k - k * k * M') := by
  refine lin3 (c1 := 1) (c2 := U) (c3 := -(V + k * M') + V') h1 h2 h3 ?_
  clear h1 h2 h3
  grind
theorem rg_r2 {A : Type} [Lean.Grind.CommRing A] {V M' k V' : A} (h3 : 0 - V = k * M' + V') : -V = V' + M' * k := by
  refine lin1 (c1 := 1) h3 ?_
  clear h3
  grind
theorem rg_r3 {A : Type} [Lean.Grind.CommRing A] {P V : A} (h : P - V * V = 0) : V * V = 1 * 1 * P := by
  refine lin1 (c1 := -1) h ?_
  clear h
  grind
/-- one turn takes it down -/
theorem sm_2 {q d g dU : Nat} (hq : isP q) {P : PS q} (hP : dl P (d + 1)) (hP0 : P d ≠ 0) (hd2 : d = 2 * g + 1) (hg1 : 1 ≤ g) (hg : g ≤ 2) {U V m : PS q} (hU : dl U (dU + 1)) (U1 : U dU = 1) (hV : dl V dU) (im : isPol m) (hm : psub P (pl_mul V V) = pl_mul U m) (h1 : g < dU) (h2 : dU ≤ 2 * g) : isC P g (rdU P U V, rdV P U V) ∧ dl (pquo (psub P (pl_mul V V)) U) (g + 1) ∧ pquo (psub P (pl_mul V V)) U ≠ pz ∧ ∀ (i1 : isPol U) (i2 : isPol V) (j1 : isPol (rdU P U V)) (j2 : isPol (rdV P U V)), @eqv (Pol q) (polRing q) ⟨P, _, hP⟩ (@idl (Pol q) (polRing q) ⟨rdU P U V, j1⟩ ⟨rdV P U V, j2⟩) (@idl (Pol q) (polRing q) ⟨U, i1⟩ ⟨V, i2⟩) := by
  have hdm := pol_dmn hq hP hP0 (by omega : d % 2 = 1)
  have U0 := mon_ne hq U1
  have eq1 : pquo (psub P (pl_mul V V)) U = m := by
    rw [hm, pl_mul_comm]; exact (pquo_mul hq im ⟨_, hU⟩ U0).1
  have m0 : m ≠ pz := fun z => by
    rw [z, pm_zr] at hm
    have := @rg_r3 (PS q) (serRing (Fin (q + 1))) P V (hm.trans (pol_0 q).symm)
    have e2 : @HMul.hMul (Pol q) (Pol q) (Pol q) (@instHMul (Pol q) (polRing q).toMul) ⟨V, _, hV⟩ ⟨V, _, hV⟩ = @HMul.hMul (Pol q) (Pol q) (Pol q) (@instHMul (Pol q) (polRing q).toMul) (@HMul.hMul (Pol q) (Pol q) (Pol q) (@instHMul (Pol q) (polRing q).toMul) (@OfNat.ofNat (Pol q) 1 ((polRing q).ofNat 1)) (@OfNat.ofNat (Pol q) 1 ((polRing q).ofNat 1))) ⟨P, _, hP⟩ := Subtype.ext this
    exact hdm.2.2 (hdm.2.1 _ _ e2).2
  obtain ⟨nm, hnm⟩ := im
  obtain ⟨dm, m1, m2⟩ := hd_top hnm m0
  have dmg : dm ≤ g := by
    obtain ⟨-, t2⟩ := ml_top hq hU (by rw [U1]; exact one_ne0 hq) m1 m2
    rcases Nat.lt_or_ge g dm with w | w
    · exfalso
      apply t2
      rw [← hm]
      have e1 : P (dU + dm) = 0 := hP _ (by omega)
      have e2 : pl_mul V V (dU + dm) = 0 := dl_mul hV hV _ (by omega)
      show P (dU + dm) - pl_mul V V (dU + dm) = 0
      rw [e1, e2]
      grind
    · exact w
  obtain ⟨p1, p2, p3, p4⟩ := pmon_is hq m1 m2
  have eU : rdU P U V = pmon m := by unfold rdU; rw [eq1]
  have eV : rdV P U V = prem (psub pz V) (pmon m) := by unfold rdV; rw [eU]
  rw [eU, eV, eq1]
  have p20 : pmon m dm ≠ 0 := by rw [p2]; exact one_ne0 hq
  have inV : dl (psub pz V) dU := dl_sub (fun _ _ => rfl) hV
  obtain ⟨-, r1, r2, r3⟩ := pqr_is hq inV p1 p20
  have c0 : m = pl_mul (pmon m) (pl_c (m dm)) := by
    rw [pl_mul_comm, ← scl_c]; exact p3
  have c1 : pmon m = pl_mul m (pl_c (fiv q (m dm))) := by
    rw [pl_mul_comm, ← scl_c]; exact p4
  have ez : (fun n => pz n - V n : PS q) = psub pz V := rfl
  have s0 := @rg_r1 (PS q) (serRing (Fin (q + 1))) P V U m (pmon m) (pl_c (m dm)) (pquo (psub pz V) (pmon m)) (prem (psub pz V) (pmon m)) hm c0 (by
    refine Eq.trans ?_ r3
    show psub (pl_c _) V = psub pz V
    congr 1
    exact pol_0 q)
  have s1 := @rg_r2 (PS q) (serRing (Fin (q + 1))) V (pmon m) (pquo (psub pz V) (pmon m)) (prem (psub pz V) (pmon m)) (by
    refine Eq.trans ?_ r3
    show psub (pl_c _) V = psub pz V
    congr 1
    exact pol_0 q)
  refine ⟨⟨dm, dmg, p1, p2, r2, _, ?_, s0⟩, dl_mono m1 (by omega), m0, fun i1 i2 j1 j2 => ?_⟩
  · exact ip_sub (ip_sub (ip_mul ⟨_, hU⟩ (ip_c _)) (ip_mul (ip_add ⟨_, hV⟩ ⟨_, hV⟩) ⟨_, r1⟩)) (ip_mul (ip_mul ⟨_, r1⟩ ⟨_, r1⟩) ⟨_, p1⟩)
  · have e1 := @red_eqv (Pol q) (polRing q) ⟨P, _, hP⟩ ⟨U, _, hU⟩ ⟨V, _, hV⟩ ⟨m, _, hnm⟩ hdm (Subtype.ext hm) (fun z => U0 ((congrArg Subtype.val z).trans (pol_0 q)))
    have e2 := @idl_unit (Pol q) (polRing q) ⟨m, _, hnm⟩ ⟨pmon m, _, p1⟩ ⟨pl_c (fiv q (m dm)), _, pc_dl _⟩ ⟨pl_c (m dm), _, pc_dl _⟩ (@Neg.neg (Pol q) (polRing q).toNeg ⟨V, _, hV⟩) (Subtype.ext c1) (Subtype.ext c0)
    have e3 := @idl_shift (Pol q) (polRing q) ⟨pmon m, _, p1⟩ (@Neg.neg (Pol q) (polRing q).toNeg ⟨V, _, hV⟩) ⟨prem (psub pz V) (pmon m), _, r2⟩ ⟨pquo (psub pz V) (pmon m), _, r1⟩ (Subtype.ext s1)
    rw [e2, e3] at e1
    exact @eqv_sym (Pol q) (polRing q) _ _ _ e1
/-- THE SUM of two classes is a class, and what it stands for -/
theorem sm_is {q d g : Nat} (hq : isP q) {P : PS q} (hP : dl P (d + 1)) (hP0 : P d ≠ 0) (hd2 : d = 2 * g + 1) (hg1 : 1 ≤ g) (hg : g ≤ 2) (hb : bzt P) {x y : PS q × PS q} (hx : isC P g x) (hy : isC P g y) : isC P g (smC P g x y) ∧ ∀ (i1 : isPol x.1) (i2 : isPol x.2) (j1 : isPol y.1) (j2 : isPol y.2) (k1 : isPol (smC P g x y).1) (k2 : isPol (smC P g x y).2), @eqv (Pol q) (polRing q) ⟨P, _, hP⟩ (idC (smC P g x y) k1 k2) (@prd (Pol q) (polRing q) ⟨P, _, hP⟩ (idC x i1 i2) (idC y j1 j2)) := by
  obtain ⟨dU, h1, h2, h3, h4, ⟨m, im, h5⟩, h6⟩ := sm_1 hq hP hP0 (by omega : d % 2 = 1) hb hg hx hy
  have et : ptop (smU x.1 x.2 y.1 y.2) = dU := ptop_at ⟨h2, Or.inr (by rw [h3]; exact one_ne0 hq)⟩
  unfold smC
  rw [et]
  by_cases c : dU ≤ g
  · rw [if_pos c]
    exact ⟨⟨dU, c, h2, h3, h4, m, im, h5⟩, fun i1 i2 j1 j2 k1 k2 => h6 i1 i2 j1 j2 k1 k2⟩
  · rw [if_neg c]
    obtain ⟨r1, -, -, r2⟩ := sm_2 hq hP hP0 hd2 hg1 hg h2 h3 h4 im h5 (by omega) h1
    refine ⟨r1, fun i1 i2 j1 j2 k1 k2 => ?_⟩
    exact @eqv_tr (Pol q) (polRing q) ⟨P, _, hP⟩ (pol_dmn hq hP hP0 (by omega)) _ _ _ (r2 ⟨_, h2⟩ ⟨_, h4⟩ k1 k2) (h6 i1 i2 j1 j2 _ _)
theorem isC_ip {q g : Nat} {P : PS q} {x : PS q × PS q} (h : isC P g x) : isPol x.1 ∧ isPol x.2 := by
  obtain ⟨du, -, h2, -, h4, -⟩ := h
  exact ⟨⟨_, h2⟩, ⟨_, h4⟩⟩
/-! the group -/
def isGr {G : Type} (op : G → G → G) (e : G) : Prop := (∀ a b c, op (op a b) c = op a (op b c)) ∧ (∀ a b, op a b = op b a) ∧ (∀ a, op a e = a) ∧ ∀ a, ∃ b, op a b = e
def cvO {q : Nat} (P : PS q) (d g : Nat) : Prop := isP q ∧ dl P (d + 1) ∧ P d ≠ 0 ∧ d = 2 * g + 1 ∧ 1 ≤ g ∧ g ≤ 2 ∧ bzt P
abbrev GC {q : Nat} (P : PS q) (g : Nat) : Type := {x : PS q × PS q // isC P g x}
noncomputable def gop {q d g : Nat} {P : PS q} (h : cvO P d g) (x y : GC P g) : GC P g := ⟨smC P g x.1 y.1, (sm_is h.1 h.2.1 h.2.2.1 h.2.2.2.1 h.2.2.2.2.1 h.2.2.2.2.2.1 h.2.2.2.2.2.2 x.2 y.2).1⟩
theorem isC_e {q g : Nat} (P : PS q) (hP : isPol P) : isC P g (pl_c 1, pz) := by
  refine ⟨0, by omega, pc_dl 1, rfl, fun _ _ => rfl, P, hP, ?_⟩
  show psub P (pl_mul pz pz) = pl_mul (pl_c 1) P
  rw [pm_z, pm_oneL]
  funext k
  show P k - 0 = P k
  grind
def gen {q d g : Nat} {P : PS q} (h : cvO P d g) : GC P g := ⟨(pl_c 1, pz), isC_e P ⟨_, h.2.1⟩⟩
def gid {q d g : Nat} {P : PS q} (_ : cvO P d g) (x : GC P g) : Pol q → Pol q → Prop := idC x.1 (isC_ip x.2).1 (isC_ip x.2).2
theorem gop_is {q d g : Nat} {P : PS q} (h : cvO P d g) (x y : GC P g) : @eqv (Pol q) (polRing q) ⟨P, _, h.2.1⟩ (gid h (gop h x y)) (@prd (Pol q) (polRing q) ⟨P, _, h.2.1⟩ (gid h x) (gid h y)) := (sm_is h.1 h.2.1 h.2.2.1 h.2.2.2.1 h.2.2.2.2.1 h.2.2.2.2.2.1 h.2.2.2.2.2.2 x.2 y.2).2 _ _ _ _ _ _
theorem g_uq {q d g : Nat} {P : PS q} (h : cvO P d g) {x y : GC P g} (e : @eqv (Pol q) (polRing q) ⟨P, _, h.2.1⟩ (gid h x) (gid h y)) : x = y := Subtype.ext (cl_uniq h.1 h.2.1 h.2.2.1 (by have := h.2.2.2.1; omega) h.2.2.2.2.2.2 (by have := h.2.2.2.1; omega) x.2 y.2 _ _ _ _ e)
theorem g_isI {q d g : Nat} {P : PS q} (h : cvO P d g) (x : GC P g) : @isI (Pol q) (polRing q) ⟨P, _, h.2.1⟩ (gid h x) := by
  obtain ⟨⟨u, v⟩, hx⟩ := x
  obtain ⟨du, h1, h2, h3, h4, m, im, h5⟩ := hx
  exact @idl_isI (Pol q) (polRing q) ⟨P, _, h.2.1⟩ ⟨u, _, h2⟩ ⟨v, _, h4⟩ ⟨m, im⟩ (Subtype.ext h5)
theorem gid_e {q d g : Nat} {P : PS q} (h : cvO P d g) : gid h (gen h) = unt := by
  refine id_ext (fun _ _ _ => trivial) (fun a b _ => ⟨@HAdd.hAdd _ _ _ (@instHAdd (Pol q) (polRing q).toAdd) a (@HMul.hMul _ _ _ (@instHMul (Pol q) (polRing q).toMul) b ⟨pz, 0, fun _ _ => rfl⟩), Subtype.ext ?_⟩)
  show padd a.1 (pl_mul b.1 pz) = pl_mul (pl_c 1) (padd a.1 (pl_mul b.1 pz))
  rw [pm_oneL]
theorem g_gr {q d g : Nat} {P : PS q} (h : cvO P d g) : isGr (gop h) (gen h) := by
  have hd := pol_dmn h.1 h.2.1 h.2.2.1 (by have := h.2.2.2.1; omega : d % 2 = 1)
  have tr := @eqv_tr (Pol q) (polRing q) ⟨P, _, h.2.1⟩ hd
  have sym := @eqv_sym (Pol q) (polRing q) ⟨P, _, h.2.1⟩
  have hcomm : ∀ a b, gop h a b = gop h b a := fun a b => by
    refine g_uq h (tr (gop_is h a b) ?_)
    have := sym (gop_is h b a)
    rw [@prd_comm (Pol q) (polRing q)] at this
    exact this
  refine ⟨fun a b c => g_uq h ?_, hcomm, fun a => g_uq h ?_, fun a => ?_⟩
  · refine tr (gop_is h _ _) (tr (@eqv_prd (Pol q) (polRing q) ⟨P, _, h.2.1⟩ _ _ (gop_is h a b) (gid h c)) ?_)
    rw [@prd_assoc (Pol q) (polRing q), @prd_comm (Pol q) (polRing q) _ (gid h a)]
    refine tr (@eqv_prd (Pol q) (polRing q) ⟨P, _, h.2.1⟩ _ _ (sym (gop_is h b c)) (gid h a)) ?_
    rw [@prd_comm (Pol q) (polRing q)]
    exact sym (gop_is h a (gop h b c))
  · refine tr (gop_is h _ _) ?_
    rw [gid_e, @prd_unt (Pol q) (polRing q) _ _ (g_isI h a)]
    exact @eqv_rfl (Pol q) (polRing q) ⟨P, _, h.2.1⟩ hd _ _ rfl
  · obtain ⟨⟨u, v⟩, hx⟩ := a
    have hx2 := hx
    obtain ⟨du, h1, h2, h3, h4, m, im, h5⟩ := hx
    simp only at h2 h3 h4 h5
    have e5 : psub P (pl_mul (psub pz v) (psub pz v)) = pl_mul u m := by
      rw [← h5]
      congr 1
      rw [pm_sub, pm_zr, pm_subr, pm_z]
      funext k
      show (0 : Fin (q + 1)) - (0 - pl_mul v v k) = _
      generalize pl_mul v v k = y
      grind
    refine ⟨⟨(u, psub pz v), du, h1, h2, h3, dl_sub (fun _ _ => rfl) h4, m, im, e5⟩, g_uq h ?_⟩
    refine tr (gop_is h _ _) ?_
    obtain ⟨x1, y1, z1, b1⟩ := pol_bez h.1 ⟨_, h.2.1⟩ h.2.2.2.2.2.2 ⟨u, _, h2⟩ ⟨v, _, h4⟩ ⟨m, im⟩ (Subtype.ext h5)
    have i1 := @inv_idl (Pol q) (polRing q) ⟨P, _, h.2.1⟩ ⟨u, _, h2⟩ ⟨v, _, h4⟩ ⟨m, im⟩ x1 y1 z1 (Subtype.ext h5) b1
    have ev : @Neg.neg (Pol q) (polRing q).toNeg ⟨v, _, h4⟩ = ⟨psub pz v, _, dl_sub (fun _ _ => rfl) h4⟩ := by
      refine Subtype.ext ?_
      funext k
      show - v k = 0 - v k
      grind
    rw [ev] at i1
    rw [gid_e]
    refine tr (@eqv_rfl (Pol q) (polRing q) ⟨P, _, h.2.1⟩ hd _ _ i1) ?_
    exact @eqv_scl (Pol q) (polRing q) ⟨P, _, h.2.1⟩ ⟨u, _, h2⟩ (@OfNat.ofNat (Pol q) 0 ((polRing q).ofNat 0)) hd (fun z => mon_ne h.1 h3 ((congrArg Subtype.val z.1).trans (pol_0 q))) unt
