/-! the greatest common divisor and its factors -/
theorem hd_uq {q m n : Nat} {f : PS q} (h : hd f m) (h' : hd f n) : m = n := by
  rcases Nat.lt_trichotomy m n with w | w | w
  · rcases h'.2 with z | z
    · omega
    · exact absurd (h.1 n (by omega)) z
  · exact w
  · rcases h.2 with z | z
    · omega
    · exact absurd (h'.1 m (by omega)) z
noncomputable def ptop {q : Nat} (f : PS q) : Nat := @dite _ (∃ n, hd f n) (Classical.propDecidable _) (fun h => Classical.choose h) (fun _ => 0)
theorem ptop_at {q n : Nat} {f : PS q} (h : hd f n) : ptop f = n := by
  have hx : ∃ n, hd f n := ⟨n, h⟩
  have e : ptop f = Classical.choose hx := by unfold ptop; rw [dif_pos hx]
  rw [e]; exact hd_uq (Classical.choose_spec hx) h
/-- made to have 1 as its first coefficient -/
noncomputable def pmon {q : Nat} (f : PS q) : PS q := pscl f (fiv q (f (ptop f)))
theorem s_mon {t : fcS} {q m : Nat} (hq : isP q) (hp : rp t q) (hm : (q + 1) ^ m < 2 ^ 30) {a : PS q} (ha : dl a m) {post : Int32 → fcS → Prop} (h : post (Ni q (pmon a)) t) : q_X3_monic t (Ni q a) post := by
  obtain ⟨n, hn, hz⟩ := hd_ex ha
  unfold q_X3_monic
  refine s_leadS hq hp hm ha hn ?_
  refine s_inv hq hp (a n) ?_
  refine s_scl hq hp hm ha _ ?_
  unfold pmon at h
  rw [ptop_at hn] at h
  exact h
noncomputable def pge {q : Nat} : Nat → PS q → PS q → PS q
  | 0, a, _ => a
  | k + 1, a, b => @ite _ (b = pz) (Classical.propDecidable _) a (pge k b (prem a b))
theorem pge_z {q k : Nat} (a : PS q) : pge k a pz = a := by
  cases k with
  | zero => rfl
  | succ k => unfold pge; rw [if_pos rfl]
theorem pge_s {q k : Nat} {a b : PS q} (hb : b ≠ pz) : pge (k + 1) a b = pge k b (prem a b) := by
  rw [pge]; rw [if_neg hb]
theorem dl_zero {q : Nat} {f : PS q} (h : dl f 0) : f = pz := funext fun i => h i (by omega)
theorem prem_dl {q m d : Nat} (hq : isP q) {a b : PS q} (ha : dl a m) (hb : dl b (d + 1)) (hb0 : b ≠ pz) : dl (prem a b) d := by
  obtain ⟨n, hn, hz⟩ := hd_ex hb
  rcases hz with hz | hz
  · have hnd : n ≤ d := by
      rcases Nat.lt_or_ge n (d + 1) with w | w
      · omega
      · exact absurd (hb n w) hz
    exact dl_mono (pqr_is hq ha hn.1 hz).2.2.1 hnd
  · exact absurd hz hb0
theorem l_gcd {t : fcS} {q m : Nat} (hq : isP q) (hp : rp t q) (hm : (q + 1) ^ m < 2 ^ 30) {post : Int32 → fcS → Prop} : ∀ (d i : Nat) (a b : PS q), i + d + 1 = 20 → dl a m → dl b m → dl b d → post (Ni q (pmon (pge d a b))) t → q_X3_commonDivisor_8 post (d + 1) (Ni q a) (Ni q b) (nI i) t := by
  have hl := isP_lo hq
  have h18 := pow18 hl.1 hm
  intro d
  induction d with
  | zero =>
    intro i a b e ha hb hd h
    have hz := dl_zero hd
    subst hz
    unfold q_X3_commonDivisor_8
    rw [pge_z] at h
    refine ⟨fun _ => s_mon hq hp hm ha h, fun _ => ⟨fun _ => s_mon hq hp hm ha h, fun c => absurd Ni_zero c⟩⟩
  | succ d ih =>
    intro i a b e ha hb hd h
    unfold q_X3_commonDivisor_8
    refine ⟨fun c => absurd ((nI_leI (a := 20) (by omega) (by omega)).mp c) (by omega), fun _ => ⟨fun c => ?_, fun c => ?_⟩⟩
    · have hz := (Ni_eq0 hq hm hb).mp c
      subst hz
      rw [pge_z] at h
      exact s_mon hq hp hm ha h
    · have hz : b ≠ pz := fun z => c ((Ni_eq0 hq hm hb).mpr z)
      rw [pge_s hz] at h
      have hr := prem_dl hq ha hd hz
      have hr2 : dl (prem a b) m := by
        obtain ⟨n, hn, hx⟩ := hd_ex hb
        rcases hx with hx | hx
        · rcases Nat.lt_or_ge n m with w | w
          · exact dl_mono (pqr_is hq ha hn.1 hx).2.2.1 (by omega)
          · exact absurd (hb n w) hx
        · exact absurd hx hz
      refine s_rest hq hp hm ha hb ?_
      intro x7 e7
      have e7 : x7 = nI (i + 1) := by rw [e7, nI_1]
      rw [e7]
      exact ih (i + 1) b (prem a b) (by omega) hb hr2 hr h
noncomputable def pgcd {q : Nat} (a b : PS q) : PS q := pmon (pge 19 a b)
theorem s_gcd {t : fcS} {q m : Nat} (hq : isP q) (hp : rp t q) (hm : (q + 1) ^ m < 2 ^ 30) {a b : PS q} (ha : dl a m) (hb : dl b m) {post : Int32 → fcS → Prop} (h : post (Ni q (pgcd a b)) t) : q_X3_commonDivisor t (Ni q a) (Ni q b) post := by
  have h18 := pow18 (isP_lo hq).1 hm
  exact ⟨20, l_gcd hq hp hm 19 0 a b (by omega) ha hb (dl_mono hb (by omega)) h⟩
/-- the first factor beside it -/
noncomputable def pgx {q : Nat} : Nat → PS q → PS q → PS q → PS q → PS q
  | 0, _, _, x, _ => x
  | k + 1, a, b, x, y => @ite _ (b = pz) (Classical.propDecidable _) x (pgx k b (prem a b) y (psub x (pl_mul (pquo a b) y)))
theorem pgx_z {q k : Nat} (a x y : PS q) : pgx k a pz x y = x := by
  cases k with
  | zero => rfl
  | succ k => unfold pgx; rw [if_pos rfl]
theorem pgx_s {q k : Nat} {a b x y : PS q} (hb : b ≠ pz) : pgx (k + 1) a b x y = pgx k b (prem a b) y (psub x (pl_mul (pquo a b) y)) := by
  rw [pgx]; rw [if_neg hb]
theorem prem_eq {q m n : Nat} (hq : isP q) {a b : PS q} (ha : dl a m) (hb : dl b (n + 1)) (hb0 : b n ≠ 0) : psub a (pl_mul (pquo a b) b) = prem a b := by
  have h3 := (pqr_is hq ha hb hb0).2.2.2
  funext i
  have h4 := congrFun h3 i
  have h4 : a i = pl_mul (pquo a b) b i + prem a b i := h4
  show a i - pl_mul (pquo a b) b i = prem a b i
  grind
theorem s_cofend {t : fcS} {q m : Nat} (hq : isP q) (hp : rp t q) (hm : (q + 1) ^ m < 2 ^ 30) {a x : PS q} (ha : dl a m) (hx : dl x m) {post : Int32 → fcS → Prop} (h : post (Ni q (pscl x (fiv q (a (ptop a))))) t) : q_X3_lead t (Ni q a) (fun (r8 : Int32) (t7 : fcS) => q_X3_inverse t7 r8 (fun (r10 : Int32) (t9 : fcS) => q_X3_scaled t9 (Ni q x) r10 (fun (r12 : Int32) (t11 : fcS) => post r12 t11))) := by
  obtain ⟨n, hn, hz⟩ := hd_ex ha
  rw [ptop_at hn] at h
  exact s_leadS hq hp hm ha hn (s_inv hq hp (a n) (s_scl hq hp hm hx _ h))
/-- behind the first step: one has degree da, the factors stay below K - da + 1 -/
theorem l_cof {t : fcS} {q m K : Nat} (hq : isP q) (hp : rp t q) (hm : (q + 1) ^ m < 2 ^ 30) (hK : K + 1 ≤ m) {post : Int32 → fcS → Prop} : ∀ (d i da : Nat) (a b x y : PS q), i + d + 1 = 20 → dl a (da + 1) → a da ≠ 0 → da ≤ K → dl b da → dl b d → dl x (K - da + 1) → dl y (K - da + 1) → post (Ni q (pscl (pgx d a b x y) (fiv q (pge d a b (ptop (pge d a b)))))) t → q_X3_cofactor_14 post (d + 1) (Ni q a) (Ni q b) (Ni q x) (Ni q y) (nI i) t := by
  have hl := isP_lo hq
  have h18 := pow18 hl.1 hm
  intro d
  induction d with
  | zero =>
    intro i da a b x y e ha ha0 hdK hba hb hx hy h
    have hz := dl_zero hb
    subst hz
    unfold q_X3_cofactor_14
    rw [pge_z, pgx_z] at h
    have := s_cofend hq hp hm (dl_mono ha (by omega)) (dl_mono hx (by omega)) h
    exact ⟨fun _ => this, fun _ => ⟨fun _ => this, fun c => absurd Ni_zero c⟩⟩
  | succ d ih =>
    intro i da a b x y e ha ha0 hdK hba hb hx hy h
    have ham : dl a m := dl_mono ha (by omega)
    have hbm : dl b m := dl_mono hba (by omega)
    have hxm : dl x m := dl_mono hx (by omega)
    have hym : dl y m := dl_mono hy (by omega)
    unfold q_X3_cofactor_14
    refine ⟨fun c => absurd ((nI_leI (a := 20) (by omega) (by omega)).mp c) (by omega), fun _ => ⟨fun c => ?_, fun c => ?_⟩⟩
    · have hz := (Ni_eq0 hq hm hbm).mp c
      subst hz
      rw [pge_z, pgx_z] at h
      exact s_cofend hq hp hm ham hxm h
    · have hz : b ≠ pz := fun z => c ((Ni_eq0 hq hm hbm).mpr z)
      rw [pge_s hz, pgx_s hz] at h
      obtain ⟨n, hn, hx0⟩ := hd_ex hba
      have hbn : b n ≠ 0 := by
        rcases hx0 with w | w
        · exact w
        · exact absurd w hz
      have hnd : n < da := by
        rcases Nat.lt_or_ge n da with w | w
        · exact w
        · exact absurd (hba n w) hbn
      have hnd2 : n < d + 1 := by
        rcases Nat.lt_or_ge n (d + 1) with w | w
        · exact w
        · exact absurd (hb n w) hbn
      obtain ⟨-, hQ, hr, -⟩ := pqr_is hq ha hn.1 hbn
      have hQb : dl (pl_mul (pquo a b) b) m := dl_mono (dl_mul hQ hn.1) (by omega)
      have hQy : dl (pl_mul (pquo a b) y) (K - n + 1) := dl_mono (dl_mul hQ hy) (by omega)
      refine s_quo hq hp hm ham hbm ?_
      refine s_pro (a := da + 1 - n) (b := n + 1) (M := m) hq hp (by omega) (by omega) hm hQ hn.1 ?_
      refine s_dif hq hp hm ham hQb ?_
      rw [prem_eq hq ha hn.1 hbn]
      refine s_pro (a := da + 1 - n) (b := K - da + 1) (M := m) hq hp (by omega) (by omega) hm hQ hy ?_
      refine s_dif hq hp hm hxm (dl_mono hQy (by omega)) ?_
      intro x23 e23
      have e23 : x23 = nI (i + 1) := by rw [e23, nI_1]
      rw [e23]
      exact ih (i + 1) n b (prem a b) y _ (by omega) hn.1 hbn (by omega) hr (dl_mono hr (by omega)) (dl_mono hy (by omega)) (dl_sub (dl_mono hx (by omega)) hQy) h
noncomputable def pcof {q : Nat} (a b : PS q) : PS q := pscl (pgx 19 a b (pl_c 1) pz) (fiv q (pge 19 a b (ptop (pge 19 a b))))
theorem pc_dl {q : Nat} (c : Fin (q + 1)) : dl (pl_c c) 1 := fun i hi => by unfold pl_c; rw [if_neg (by omega)]
theorem Ni_c {q : Nat} (hq : isP q) (c : Fin (q + 1)) : Ni q (pl_c c) = nI c.val := by
  have hl := isP_lo hq
  rw [Ni_dl (m := 1) hl.1 (by rw [Nat.pow_one]; omega) (pc_dl c)]
  show nI ((pl_c c 0).val + (q + 1) * 0) = nI c.val
  rw [Nat.mul_zero]; rfl
theorem Ni_one {q : Nat} (hq : isP q) : Ni q (pl_c 1) = 1 := by
  have hl := isP_lo hq
  rw [Ni_c hq]
  show nI (1 % (q + 1)) = 1
  rw [Nat.mod_eq_of_lt (by omega)]; rfl
theorem s_cof {t : fcS} {q m : Nat} (hq : isP q) (hp : rp t q) (hm : (q + 1) ^ m < 2 ^ 30) (hm2 : 2 ≤ m) {a b : PS q} (ha : dl a m) (hb : dl b (m - 1)) {post : Int32 → fcS → Prop} (h : post (Ni q (pcof a b)) t) : q_X3_cofactor t (Ni q a) (Ni q b) post := by
  have hl := isP_lo hq
  have h18 := pow18 hl.1 hm
  have hbm : dl b m := dl_mono hb (by omega)
  have h1m : dl (pl_c (1 : Fin (q + 1))) m := dl_mono (pc_dl _) (by omega)
  refine ⟨20, ?_⟩
  have e1 : (1 : Int32) = Ni q (pl_c 1) := (Ni_one hq).symm
  have e0 : (0 : Int32) = Ni q pz := Ni_zero.symm
  show q_X3_cofactor_14 post (19 + 1) (Ni q a) (Ni q b) 1 0 0 t
  unfold q_X3_cofactor_14
  refine ⟨fun c => absurd c (by decide), fun _ => ⟨fun c => ?_, fun c => ?_⟩⟩
  · have hz := (Ni_eq0 hq hm hbm).mp c
    subst hz
    unfold pcof at h
    rw [pge_z, pgx_z] at h
    have := s_cofend hq hp hm ha h1m h
    rw [← e1] at this
    exact this
  · have hz : b ≠ pz := fun z => c ((Ni_eq0 hq hm hbm).mpr z)
    unfold pcof at h
    rw [pge_s hz, pgx_s hz] at h
    obtain ⟨n, hn, hx0⟩ := hd_ex hb
    have hbn : b n ≠ 0 := by
      rcases hx0 with w | w
      · exact w
      · exact absurd w hz
    have hnm : n < m - 1 := by
      rcases Nat.lt_or_ge n (m - 1) with w | w
      · exact w
      · exact absurd (hb n w) hbn
    obtain ⟨-, hQ, hr, -⟩ := pqr_is hq ha hn.1 hbn
    have hQb : dl (pl_mul (pquo a b) b) m := dl_mono (dl_mul hQ hn.1) (by omega)
    refine s_quo hq hp hm ha hbm ?_
    refine s_pro (a := m - n) (b := n + 1) (M := m) hq hp (by omega) (by omega) hm hQ hn.1 ?_
    refine s_dif hq hp hm ha hQb ?_
    rw [prem_eq hq ha hn.1 hbn, e0]
    refine s_pro (a := m - n) (b := 0) (M := m) hq hp (by omega) (by omega) hm hQ (fun _ _ => rfl) ?_
    have e1' : (1 : Int32) = Ni q (pl_c 1) := e1
    rw [e1']
    have hQz : dl (pl_mul (pquo a b) pz) m := by rw [pm_zr]; exact fun _ _ => rfl
    refine s_dif hq hp hm h1m hQz ?_
    intro x23 e23
    have e23 : x23 = nI (0 + 1) := by rw [e23, ← e0, ← e1]; rfl
    rw [e23]
    refine l_cof (K := n) hq hp hm (by omega) 18 (0 + 1) n b (prem a b) pz _ (by omega) hn.1 hbn (by omega) hr (dl_mono hr (by omega)) (fun _ _ => rfl) ?_ h
    rw [pm_zr]
    exact dl_sub (dl_mono (pc_dl _) (by omega)) (fun _ _ => rfl)
