/-! how many classes -/
def Jf {q : Nat} (P : PS q) (h D : Fin (q + 1)) : Nat := if nr D = 0 ∧ 0 < nr ((ph P h D).1 * (ph P h D).1 - (ph P h D).2 * (ph P h D).2 * D) then 1 else 0
def Gf {q : Nat} (P : PS q) (h dd : Fin (q + 1)) : Nat := nr (pv P (-h + dd)) * nr (pv P (-h - dd))
theorem f_can {q : Nat} (hq : isP q) {a b c : Fin (q + 1)} (ha : a ≠ 0) (h : a * b = a * c) : b = c := by
  have e : a * (b - c) = 0 := by grind
  rcases fin_dom hq e with z | z
  · exact absurd z ha
  · grind
theorem two_ne {q : Nat} (hq : isP q) {a : Fin (q + 1)} (h : a + a = 0) : a = 0 := by
  obtain ⟨-, -, hf, e⟩ := nr_tab hq
  have : a = (hf + hf) * a := by rw [e]; grind
  have e2 : (hf + hf) * a = hf * (a + a) := by grind
  rw [this, e2, h]
  grind
theorem v_inj {q v w : Nat} (hv : v < (q + 1) ^ 2) (hw : w < (q + 1) ^ 2) (e1 : Fin.ofNat (q + 1) (v / (q + 1)) = Fin.ofNat (q + 1) (w / (q + 1))) (e0 : Fin.ofNat (q + 1) v = Fin.ofNat (q + 1) w) : v = w := by
  have hp2 : (q + 1) ^ 2 = (q + 1) * (q + 1) := Nat.pow_two _
  have a1 := congrArg Fin.val e1
  have a0 := congrArg Fin.val e0
  rw [fo_val, fo_val] at a1 a0
  rw [Nat.mod_eq_of_lt (Nat.div_lt_of_lt_mul (by rw [← hp2]; exact hv)), Nat.mod_eq_of_lt (Nat.div_lt_of_lt_mul (by rw [← hp2]; exact hw))] at a1
  have b1 := Nat.div_add_mod v (q + 1)
  have b2 := Nat.div_add_mod w (q + 1)
  rw [← b1, ← b2, a1, a0]
/-- two roots in the field of pairs -/
theorem pr_roots {q : Nat} (hq : isP q) {D S b S' b' : Fin (q + 1)} (hD : nr D = 0) (e1 : S * S + b * b * D = S' * S' + b' * b' * D) (e2 : S * b + b * S = S' * b' + b' * S') : (S = S' ∧ b = b') ∨ (S = -S' ∧ b = -b') := by
  have key : ∀ A B : Fin (q + 1), A * A - B * B * D = 0 → A = 0 ∧ B = 0 := fun A B h => by
    have b0 : B = 0 := by
      by_cases c : B = 0
      · exact c
      · exfalso
        have e3 : (A * fiv q B) * (A * fiv q B) = D := by
          have f := fiv_mul hq c
          generalize fiv q B = y at *
          have : A * A = B * B * D := by grind
          have g : (A * y) * (A * y) = (B * y) * (B * y) * D := by grind
          rw [g, f]; grind
        have := nr_pos (A * fiv q B)
        rw [e3, hD] at this
        omega
    subst b0
    have : A * A = 0 := by grind
    rcases fin_dom hq this with z | z <;> exact ⟨z, rfl⟩
  have e3 : ((S - S') * (S - S') - (b - b') * (b - b') * D) * ((S + S') * (S + S') - (b + b') * (b + b') * D) = 0 := by
    have k1 : (S - S') * (S + S') + (b - b') * (b + b') * D = 0 := by grind
    have k2 : (S - S') * (b + b') + (b - b') * (S + S') = 0 := by grind
    have k3 : ((S - S') * (S - S') - (b - b') * (b - b') * D) * ((S + S') * (S + S') - (b + b') * (b + b') * D) = ((S - S') * (S + S') + (b - b') * (b + b') * D) * ((S - S') * (S + S') + (b - b') * (b + b') * D) - ((S - S') * (b + b') + (b - b') * (S + S')) * ((S - S') * (b + b') + (b - b') * (S + S')) * D := by
      clear k1 k2 e1 e2 key
      grind
    rw [k3, k1, k2]
    clear k1 k2 k3 e1 e2 key
    grind
  rcases fin_dom hq e3 with z | z
  · obtain ⟨x1, x2⟩ := key _ _ z
    exact Or.inl ⟨by grind, by grind⟩
  · obtain ⟨x1, x2⟩ := key _ _ z
    exact Or.inr ⟨by grind, by grind⟩
theorem sF_two {q : Nat} {f : Fin (q + 1) → Nat} {a b : Fin (q + 1)} (hab : a ≠ b) : f a + f b ≤ sF f := by
  have e1 : sF (fun x => if x = a then f a else 0) = f a := by
    rw [sF_one a (fun b hb => if_neg hb), if_pos rfl]
  have e2 : sF (fun x => if x = b then f b else 0) = f b := by
    rw [sF_one b (fun c hc => if_neg hc), if_pos rfl]
  have e3 : sF (fun x => (if x = a then f a else 0) + (if x = b then f b else 0)) ≤ sF f := sF_le (fun x => by
    by_cases c1 : x = a
    · subst c1
      rw [if_pos rfl, if_neg hab]; omega
    · rw [if_neg c1]
      by_cases c2 : x = b
      · subst c2; rw [if_pos rfl]; omega
      · rw [if_neg c2]; omega)
  rw [sF_add, e1, e2] at e3
  exact e3
theorem rg_n {A : Type} [Lean.Grind.CommRing A] {P u v m l b z : A} (h : P - v * v = u * m) (hu : u = l * l) (hv : v = b * l) (hz : z = 0) : P - z * z = l * (l * (m + b * b)) := by
  rw [hz]
  refine lin3 (c1 := 1) (c2 := m) (c3 := v + b * l) h hu hv ?_
  clear h hu hv hz
  grind
theorem rg_o {A : Type} [Lean.Grind.CommRing A] {x y w l M z o : A} (h : x * l + y * (z + z) + w * (l * M) = o) (hz : z = 0) : o = l * (x + w * M) := by
  rw [← h, hz]; clear h hz; grind
theorem lin_x {q : Nat} (h : Fin (q + 1)) : plin h = padd (pl_c h) (pl_mul px (pl_c 1)) := by
  have e := tl_split (plin h)
  have e1 : ptl (plin h) = pl_c 1 := by
    funext n
    show (if n + 1 = 0 then h else if n + 1 = 1 then 1 else 0) = if n = 0 then 1 else 0
    rw [if_neg (by omega)]
    by_cases c : n = 0
    · rw [if_pos (by omega), if_pos c]
    · rw [if_neg (by omega), if_neg c]
  rw [e1, sh_x] at e
  exact e
theorem rg_l {A : Type} [Lean.Grind.CommRing A] {h u0 u1 x : A} (e1 : h + h = u1) (e2 : h * h = u0) : u0 + x * (u1 + x * 1) = (h + x * 1) * (h + x * 1) := by
  rw [← e1, ← e2]; clear e1 e2; grind
theorem rg_v {A : Type} [Lean.Grind.CommRing A] {h v0 b x : A} (e : v0 = h * b) : v0 + x * b = b * (h + x * 1) := by
  rw [e]; clear e; grind
theorem of_gdb {q u v : Nat} {P : PS q} (h : gdb q P u v = true) : gd q P u v := by
  unfold gdb at h
  exact @of_decide_eq_true _ (Classical.propDecidable _) h
/-- no square in P -/
theorem no_sq {q u1 u0 v : Nat} (hq : isP q) {P : PS q} (hP : dl P 7) (hb : bzt P) (h1 : u1 < q + 1) (h0 : u0 < q + 1) (hv : v < (q + 1) ^ 2) (hg : gd q P ((q + 1) ^ 2 + (u1 * (q + 1) + u0)) v) {h : Fin (q + 1)} (hh : h + h = Fin.ofNat (q + 1) u1) (hD : h * h - Fin.ofNat (q + 1) u0 = 0) (hS : Fin.ofNat (q + 1) v - h * Fin.ofNat (q + 1) (v / (q + 1)) = 0) : False := by
  have hp2 : (q + 1) ^ 2 = (q + 1) * (q + 1) := Nat.pow_two _
  have hbd : u1 * (q + 1) + u0 < (q + 1) ^ 2 := by
    have : u1 * (q + 1) ≤ q * (q + 1) := Nat.mul_le_mul_right _ (by omega)
    rw [hp2, Nat.add_mul]
    omega
  have hv2 : v / (q + 1) < q + 1 := Nat.div_lt_of_lt_mul (by rw [← hp2]; exact hv)
  obtain ⟨m, im, e⟩ := (gd_iff (d := 2) hq ⟨7, hP⟩ (by omega) (by omega) hv).mp hg
  have en : (q + 1) ^ 2 + (u1 * (q + 1) + u0) = (q + 1) * (q + 1 + u1) + u0 := by
    rw [hp2, Nat.mul_add (q + 1) (q + 1) u1, Nat.mul_comm (q + 1) u1, Nat.add_assoc]
  have f0 : Fin.ofNat (q + 1) ((q + 1) * (q + 1 + u1) + u0) = Fin.ofNat (q + 1) u0 := by
    rw [fo_add q ((q + 1) * (q + 1 + u1)) u0, fo_mul q (q + 1) (q + 1 + u1), fo_p]
    generalize Fin.ofNat (q + 1) (q + 1 + u1) = x
    generalize Fin.ofNat (q + 1) u0 = y
    grind
  have f1 : Fin.ofNat (q + 1) (q + 1 + u1) = Fin.ofNat (q + 1) u1 := by
    rw [fo_add q (q + 1) u1, fo_p]
    generalize Fin.ofNat (q + 1) u1 = y
    grind
  have q1 : ((q + 1) * (q + 1 + u1) + u0) / (q + 1) = q + 1 + u1 := by rw [Nat.mul_add_div (by omega), Nat.div_eq_of_lt h0, Nat.add_zero]
  have q2 : (q + 1 + u1) / (q + 1) = 1 := by rw [Nat.add_div_left _ (by omega), Nat.div_eq_of_lt h1]
  have eu : pn q ((q + 1) ^ 2 + (u1 * (q + 1) + u0)) = padd (pl_c (Fin.ofNat (q + 1) u0)) (pl_mul px (padd (pl_c (Fin.ofNat (q + 1) u1)) (pl_mul px (pl_c 1)))) := by
    rw [en, pn_split q ((q + 1) * (q + 1 + u1) + u0), q1, pn_split q (q + 1 + u1), q2, pn_1 hq, f0, f1]
  have ev : pn q v = padd (pl_c (Fin.ofNat (q + 1) v)) (pl_mul px (pl_c (Fin.ofNat (q + 1) (v / (q + 1))))) := by
    rw [pn_split q v, pn_small hv2]
  have k1 : (padd (pl_c h) (pl_c h) : PS q) = pl_c (Fin.ofNat (q + 1) u1) := by rw [← c_add, hh]
  have k2 : (pl_mul (pl_c h) (pl_c h) : PS q) = pl_c (Fin.ofNat (q + 1) u0) := by
    rw [← c_mul]
    congr 1
    generalize Fin.ofNat (q + 1) u0 = x at *
    grind
  have k3 : (pl_c (Fin.ofNat (q + 1) v) : PS q) = pl_mul (pl_c h) (pl_c (Fin.ofNat (q + 1) (v / (q + 1)))) := by
    rw [← c_mul]
    congr 1
    generalize Fin.ofNat (q + 1) v = x at *
    generalize Fin.ofNat (q + 1) (v / (q + 1)) = y at *
    grind
  have eu2 : pn q ((q + 1) ^ 2 + (u1 * (q + 1) + u0)) = pl_mul (plin h) (plin h) := by
    rw [eu, lin_x]
    exact @rg_l (PS q) (serRing (Fin (q + 1))) (pl_c h) (pl_c (Fin.ofNat (q + 1) u0)) (pl_c (Fin.ofNat (q + 1) u1)) px k1 k2
  have ev2 : pn q v = pl_mul (pl_c (Fin.ofNat (q + 1) (v / (q + 1)))) (plin h) := by
    rw [ev, lin_x]
    exact @rg_v (PS q) (serRing (Fin (q + 1))) (pl_c h) (pl_c (Fin.ofNat (q + 1) v)) (pl_c (Fin.ofNat (q + 1) (v / (q + 1)))) px k3
  have ib : isPol (pl_c (Fin.ofNat (q + 1) (v / (q + 1))) : PS q) := ip_c _
  clear k1 k2 k3 eu ev
  generalize (pl_c (Fin.ofNat (q + 1) (v / (q + 1))) : PS q) = bb at *
  have il : isPol (plin h) := ⟨_, plin_dl h⟩
  have e5 : psub P (pl_mul pz pz) = pl_mul (plin h) (pl_mul (plin h) (padd m (pl_mul bb bb))) := @rg_n (PS q) (serRing (Fin (q + 1))) P _ _ m (plin h) bb pz e eu2 ev2 (pol_0 q).symm
  have iM : isPol (padd m (pl_mul bb bb)) := ip_add im (ip_mul ib ib)
  obtain ⟨⟨x, ix⟩, ⟨y, iy⟩, ⟨w, iw⟩, e6⟩ := pol_bez hq ⟨7, hP⟩ hb ⟨plin h, il⟩ ⟨pz, 0, fun _ _ => rfl⟩ ⟨pl_mul (plin h) (padd m (pl_mul bb bb)), ip_mul il iM⟩ (Subtype.ext e5)
  have e7 : padd (padd (pl_mul x (plin h)) (pl_mul y (padd pz pz))) (pl_mul w (pl_mul (plin h) (padd m (pl_mul bb bb)))) = pl_c 1 := congrArg Subtype.val e6
  have e8 : pl_c 1 = pl_mul (plin h) (padd x (pl_mul w (padd m (pl_mul bb bb)))) := @rg_o (PS q) (serRing (Fin (q + 1))) x y w (plin h) _ pz _ e7 (pol_0 q).symm
  obtain ⟨n, iW⟩ : isPol (padd x (pl_mul w (padd m (pl_mul bb bb)))) := ip_add ix (ip_mul iw iM)
  generalize padd x (pl_mul w (padd m (pl_mul bb bb))) = W at *
  have W0 : W ≠ pz := fun z => by
    rw [z, pm_zr] at e8
    exact one_ne hq e8
  obtain ⟨dW, w1, w2⟩ := hd_top iW W0
  have l1 : plin h 1 ≠ 0 := by
    show (if 1 = 0 then h else if 1 = 1 then 1 else 0) ≠ 0
    rw [if_neg (by omega), if_pos rfl]
    exact one_ne0 hq
  obtain ⟨-, t2⟩ := ml_top hq (plin_dl h) l1 w1 w2
  rw [← e8] at t2
  exact t2 (pc_dl 1 _ (by omega))
/-- the classes with one u of degree 2 -/
theorem u_bd {q u1 u0 : Nat} (hq : isP q) {P : PS q} (hP : dl P 7) (hb : bzt P) (h1 : u1 < q + 1) (h0 : u0 < q + 1) {h : Fin (q + 1)} (hh : h + h = Fin.ofNat (q + 1) u1) : 2 * fb_ct (fun v => gdb q P ((q + 1) ^ 2 + (u1 * (q + 1) + u0)) v) ((q + 1) ^ 2) ≤ sF (fun dd => if dd * dd = h * h - Fin.ofNat (q + 1) u0 then Gf P h dd else 0) + 4 * Jf P h (h * h - Fin.ofNat (q + 1) u0) := by
  have T := (nr_tab hq).1
  have sol : ∀ v, v < (q + 1) ^ 2 → gdb q P ((q + 1) ^ 2 + (u1 * (q + 1) + u0)) v = true → ph P h (h * h - Fin.ofNat (q + 1) u0) = ((Fin.ofNat (q + 1) v - h * Fin.ofNat (q + 1) (v / (q + 1))) * (Fin.ofNat (q + 1) v - h * Fin.ofNat (q + 1) (v / (q + 1))) + Fin.ofNat (q + 1) (v / (q + 1)) * Fin.ofNat (q + 1) (v / (q + 1)) * (h * h - Fin.ofNat (q + 1) u0), (Fin.ofNat (q + 1) v - h * Fin.ofNat (q + 1) (v / (q + 1))) * Fin.ofNat (q + 1) (v / (q + 1)) + Fin.ofNat (q + 1) (v / (q + 1)) * (Fin.ofNat (q + 1) v - h * Fin.ofNat (q + 1) (v / (q + 1)))) := fun v hv hg => gd_2 hq hP h1 h0 hv (of_gdb hg) hh
  have inj : ∀ v w, v < (q + 1) ^ 2 → w < (q + 1) ^ 2 → Fin.ofNat (q + 1) v - h * Fin.ofNat (q + 1) (v / (q + 1)) = Fin.ofNat (q + 1) w - h * Fin.ofNat (q + 1) (w / (q + 1)) → Fin.ofNat (q + 1) (v / (q + 1)) = Fin.ofNat (q + 1) (w / (q + 1)) → v = w := fun v w hv hw e1 e2 => by
    refine v_inj hv hw e2 ?_
    rw [e2] at e1
    generalize Fin.ofNat (q + 1) (w / (q + 1)) = x at *
    generalize Fin.ofNat (q + 1) v = y at *
    generalize Fin.ofNat (q + 1) w = z at *
    grind
  have nsq : ∀ v, v < (q + 1) ^ 2 → gdb q P ((q + 1) ^ 2 + (u1 * (q + 1) + u0)) v = true → h * h - Fin.ofNat (q + 1) u0 = 0 → Fin.ofNat (q + 1) v - h * Fin.ofNat (q + 1) (v / (q + 1)) = 0 → False := fun v hv hg e1 e2 => no_sq hq hP hb h1 h0 hv (of_gdb hg) hh e1 e2
  generalize h * h - Fin.ofNat (q + 1) u0 = D at *
  obtain ⟨E, O, eEO⟩ : ∃ E O, ph P h D = (E, O) := ⟨_, _, rfl⟩
  rw [eEO] at sol
  by_cases hD : nr D = 0
  · by_cases hN : 0 < nr (E * E - O * O * D)
    · have eJ : Jf P h D = 1 := by
        unfold Jf
        rw [eEO]
        exact if_pos ⟨hD, hN⟩
      rw [eJ]
      have : fb_ct (fun v => gdb q P ((q + 1) ^ 2 + (u1 * (q + 1) + u0)) v) ((q + 1) ^ 2) ≤ 2 := by
        refine ct_two (fun x y z hx hy hz fx fy fz => ?_)
        have sx := sol x hx fx
        have sy := sol y hy fy
        have sz := sol z hz fz
        have a1 := congrArg Prod.fst (sx.symm.trans sy)
        have a2 := congrArg Prod.snd (sx.symm.trans sy)
        have b1 := congrArg Prod.fst (sx.symm.trans sz)
        have b2 := congrArg Prod.snd (sx.symm.trans sz)
        rcases pr_roots hq hD a1 a2 with w | w
        · exact Or.inl (inj x y hx hy w.1 w.2)
        · rcases pr_roots hq hD b1 b2 with w2 | w2
          · exact Or.inr (Or.inr (inj x z hx hz w2.1 w2.2))
          · refine Or.inr (Or.inl (inj y z hy hz ?_ ?_))
            · have := w.1.symm.trans w2.1
              generalize Fin.ofNat (q + 1) y - h * Fin.ofNat (q + 1) (y / (q + 1)) = k1 at *
              generalize Fin.ofNat (q + 1) z - h * Fin.ofNat (q + 1) (z / (q + 1)) = k2 at *
              clear w w2 sol inj nsq sx sy sz a1 a2 b1 b2
              grind
            · have := w.2.symm.trans w2.2
              generalize Fin.ofNat (q + 1) (y / (q + 1)) = k1 at *
              generalize Fin.ofNat (q + 1) (z / (q + 1)) = k2 at *
              clear w w2 sol inj nsq sx sy sz a1 a2 b1 b2
              grind
      omega
    · have : fb_ct (fun v => gdb q P ((q + 1) ^ 2 + (u1 * (q + 1) + u0)) v) ((q + 1) ^ 2) = 0 := by
        refine fb_ct_zero.mpr (fun v hv => ?_)
        cases hgv : gdb q P ((q + 1) ^ 2 + (u1 * (q + 1) + u0)) v with
        | false => rfl
        | true =>
          exfalso
          apply hN
          have sv := sol v hv hgv
          have a1 : E = _ := congrArg Prod.fst sv
          have a2 : O = _ := congrArg Prod.snd sv
          generalize Fin.ofNat (q + 1) v - h * Fin.ofNat (q + 1) (v / (q + 1)) = S at *
          generalize Fin.ofNat (q + 1) (v / (q + 1)) = b at *
          have : E * E - O * O * D = (S * S - b * b * D) * (S * S - b * b * D) := by
            rw [a1, a2]
            clear a1 a2 sv sol inj nsq
            show (S * S + b * b * D) * (S * S + b * b * D) - (S * b + b * S) * (S * b + b * S) * D = _
            grind
          rw [this]
          exact nr_pos _
      omega
  · obtain ⟨dd, edd⟩ := nr_ex (Nat.pos_of_ne_zero hD)
    by_cases hd0 : dd = 0
    · subst hd0
      have D0 : D = 0 := by rw [← edd]; grind
      have eG : sF (fun dd => if dd * dd = D then Gf P h dd else 0) = Gf P h 0 := by
        rw [sF_one 0 (fun b hb => if_neg (fun z => hb ?_)), if_pos edd]
        rw [D0] at z
        rcases fin_dom hq z with y | y <;> exact y
      have eE : ∀ x : Fin (q + 1), x = 0 → pv P (-h + x) = E := fun x hx => by
        subst hx
        rw [← ph_pv P h 0, edd, eEO]
        show E + 0 * O = E
        grind
      have eG2 : Gf P h 0 = nr E * nr E := by
        unfold Gf
        rw [show -h - 0 = -h + 0 by grind, eE 0 rfl]
      rw [eG, eG2]
      by_cases hE : E = 0
      · have : fb_ct (fun v => gdb q P ((q + 1) ^ 2 + (u1 * (q + 1) + u0)) v) ((q + 1) ^ 2) = 0 := by
          refine fb_ct_zero.mpr (fun v hv => ?_)
          cases hgv : gdb q P ((q + 1) ^ 2 + (u1 * (q + 1) + u0)) v with
          | false => rfl
          | true =>
            exfalso
            have sv := sol v hv hgv
            have a1 : E = _ := congrArg Prod.fst sv
            refine nsq v hv hgv D0 ?_
            rw [hE, D0] at a1
            generalize Fin.ofNat (q + 1) v - h * Fin.ofNat (q + 1) (v / (q + 1)) = S at *
            generalize Fin.ofNat (q + 1) (v / (q + 1)) = b at *
            have : S * S = 0 := by
              have a1 : 0 = S * S + b * b * 0 := a1
              clear sv sol inj nsq
              grind
            rcases fin_dom hq this with y | y <;> exact y
        omega
      · have : fb_ct (fun v => gdb q P ((q + 1) ^ 2 + (u1 * (q + 1) + u0)) v) ((q + 1) ^ 2) ≤ nr E := by
          refine ct_inj (g1 := fun v => (Fin.ofNat (q + 1) v - h * Fin.ofNat (q + 1) (v / (q + 1))).val) (fun v hv hgv => ⟨Fin.isLt _, ?_⟩) (fun v w hv hw fv fw e => ?_)
          · rw [fo_self]
            refine decide_eq_true ?_
            have a1 : E = _ := congrArg Prod.fst (sol v hv hgv)
            rw [D0] at a1
            rw [a1]
            generalize Fin.ofNat (q + 1) v - h * Fin.ofNat (q + 1) (v / (q + 1)) = S
            generalize Fin.ofNat (q + 1) (v / (q + 1)) = b
            show S * S = S * S + b * b * 0
            clear sol inj nsq
            grind
          · have e := Fin.ext e
            refine inj v w hv hw e ?_
            have sv := sol v hv fv
            have sw := sol w hw fw
            have a1 : E = _ := congrArg Prod.fst sv
            have a2 : O = _ := congrArg Prod.snd sv
            have b2 : O = _ := congrArg Prod.snd sw
            rw [← e] at b2
            rw [D0] at a1
            generalize Fin.ofNat (q + 1) v - h * Fin.ofNat (q + 1) (v / (q + 1)) = S at *
            generalize Fin.ofNat (q + 1) (v / (q + 1)) = b at *
            generalize Fin.ofNat (q + 1) (w / (q + 1)) = b' at *
            have S0 : S + S ≠ 0 := fun z => hE (by
              have s0 := two_ne hq z
              have a1 : E = S * S + b * b * 0 := a1
              rw [a1, s0]
              clear sv sw sol inj nsq a1 a2 b2
              grind)
            refine f_can hq S0 ?_
            have a2 : O = S * b + b * S := a2
            have b2 : O = S * b' + b' * S := b2
            clear sv sw sol inj nsq a1
            grind
        rcases (T E).2.1 hE with y | y
        · rw [y] at this ⊢; omega
        · rw [y] at this ⊢; omega
    · have hne : dd ≠ -dd := fun z => hd0 (two_ne hq (by grind))
      have enn : (-dd) * (-dd) = D := by rw [← edd]; grind
      have low := sF_two (f := fun dd => if dd * dd = D then Gf P h dd else 0) hne
      have e1 : (if dd * dd = D then Gf P h dd else 0) = Gf P h dd := if_pos edd
      have e2 : (if -dd * -dd = D then Gf P h (-dd) else 0) = Gf P h (-dd) := if_pos enn
      have e3 : Gf P h (-dd) = Gf P h dd := by
        unfold Gf
        rw [show -h + -dd = -h - dd by grind, show -h - -dd = -h + dd by grind, Nat.mul_comm]
      have low : (if dd * dd = D then Gf P h dd else 0) + (if -dd * -dd = D then Gf P h (-dd) else 0) ≤ sF (fun dd => if dd * dd = D then Gf P h dd else 0) := low
      rw [e1, e2, e3] at low
      have p1 : pv P (-h + dd) = E + dd * O := by
        rw [← ph_pv P h dd, edd, eEO]
      have p2 : pv P (-h - dd) = E - dd * O := by
        rw [show -h - dd = -h + -dd by grind, ← ph_pv P h (-dd), enn, eEO]
        show E + -dd * O = _
        grind
      have : fb_ct (fun v => gdb q P ((q + 1) ^ 2 + (u1 * (q + 1) + u0)) v) ((q + 1) ^ 2) ≤ Gf P h dd := by
        unfold Gf
        rw [p1, p2]
        refine ct_prod (g1 := fun v => ((Fin.ofNat (q + 1) v - h * Fin.ofNat (q + 1) (v / (q + 1))) + dd * Fin.ofNat (q + 1) (v / (q + 1))).val) (g2 := fun v => ((Fin.ofNat (q + 1) v - h * Fin.ofNat (q + 1) (v / (q + 1))) - dd * Fin.ofNat (q + 1) (v / (q + 1))).val) (fun v hv hgv => ⟨Fin.isLt _, ?_⟩) (fun v hv hgv => ⟨Fin.isLt _, ?_⟩) (fun v w hv hw fv fw x1 x2 => ?_)
        · rw [fo_self]
          refine decide_eq_true ?_
          have a1 : E = _ := congrArg Prod.fst (sol v hv hgv)
          have a2 : O = _ := congrArg Prod.snd (sol v hv hgv)
          rw [a1, a2, ← edd]
          generalize Fin.ofNat (q + 1) v - h * Fin.ofNat (q + 1) (v / (q + 1)) = S
          generalize Fin.ofNat (q + 1) (v / (q + 1)) = b
          show (S + dd * b) * (S + dd * b) = S * S + b * b * (dd * dd) + dd * (S * b + b * S)
          clear sol inj nsq edd enn p1 p2 low e1 e2 e3 hne
          grind
        · rw [fo_self]
          refine decide_eq_true ?_
          have a1 : E = _ := congrArg Prod.fst (sol v hv hgv)
          have a2 : O = _ := congrArg Prod.snd (sol v hv hgv)
          rw [a1, a2, ← edd]
          generalize Fin.ofNat (q + 1) v - h * Fin.ofNat (q + 1) (v / (q + 1)) = S
          generalize Fin.ofNat (q + 1) (v / (q + 1)) = b
          show (S - dd * b) * (S - dd * b) = S * S + b * b * (dd * dd) - dd * (S * b + b * S)
          clear sol inj nsq edd enn p1 p2 low e1 e2 e3 hne
          grind
        · have x1 := Fin.ext x1
          have x2 := Fin.ext x2
          generalize eS : Fin.ofNat (q + 1) v - h * Fin.ofNat (q + 1) (v / (q + 1)) = S at *
          generalize eb : Fin.ofNat (q + 1) (v / (q + 1)) = b at *
          generalize eS' : Fin.ofNat (q + 1) w - h * Fin.ofNat (q + 1) (w / (q + 1)) = S' at *
          generalize eb' : Fin.ofNat (q + 1) (w / (q + 1)) = b' at *
          have y1 : S = S' := by
            have : (S - S') + (S - S') = 0 := by
              clear sol nsq edd enn p1 p2 low e1 e2 e3 hne eS eS' eb eb' inj
              grind
            have := two_ne hq this
            clear sol nsq edd enn p1 p2 low e1 e2 e3 hne eS eS' eb eb' inj
            grind
          subst y1
          have y2 : b = b' := f_can hq hd0 (by
            clear sol nsq edd enn p1 p2 low e1 e2 e3 hne eS eS' eb eb' inj
            grind)
          exact inj v w hv hw (by rw [eb, eb']; exact eS.trans eS'.symm) (eb.trans (y2.trans eb'.symm))
      omega
