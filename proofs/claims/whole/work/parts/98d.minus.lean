/-! minus -/
theorem s_reach {q C c : Nat} {cv : Nat → Nat × Nat × Nat} {K : Int32} {T : Int64} {t : fcS} (hS : ST q C cv K T t) (hc : c < C) (ho : cvd q (cv c) % 2 = 1) {x : Int32} {post : Int32 → fcS → Prop} (h0 : (∀ i, i < (cls q (cvP q (cv c)) (cvg q (cv c))).length → x ≠ nI i) → ∀ t2, ST q C cv K T t2 → post 0 t2) (h1 : ∀ i, i < (cls q (cvP q (cv c)) (cvg q (cv c))).length → x = nI i → ∀ t2, ST q C cv K T t2 → LI t2 q (21 + 4 * c + 2) (cls q (cvP q (cv c)) (cvg q (cv c))) → post 1 t2) : q_X0_reaches t (21 + 4 * c + 2) x post := by
  have hlen := cls_450 hS.1.1 (hS.1.2.2 c hc) ho
  rcases ix_cases x (m := (cls q (cvP q (cv c)) (cvg q (cv c))).length) (by omega) with w | ⟨i, hi, e⟩
  · have hno := no_ix (by omega) w
    refine ⟨fun _ => h0 hno t hS, fun c1 => s_many hS hc ho (fun t2 hS2 _ => ⟨fun _ => h0 hno t2 hS2, fun c2 => ?_⟩)⟩
    exfalso
    rw [Int32.lt_iff_toInt_lt, o32_0] at c1
    rw [Int32.le_iff_toInt_le, nI_toInt (by omega)] at c2
    omega
  · refine ⟨fun z => absurd z (by rw [e]; exact nI_pos (by omega)), fun _ => s_many hS hc ho (fun t2 hS2 hL => ⟨fun z => absurd z (by rw [e]; exact nI_ge hi (by omega)), fun _ => h1 i hi e t2 hS2 hL⟩)⟩
theorem m_isTh {q C c : Nat} {cv : Nat → Nat × Nat × Nat} {K : Int32} {T : Int64} {t : fcS} (hS : ST q C cv K T t) (hc : c < C) (ho : cvd q (cv c) % 2 = 1) {x : Int32} {post : Int32 → fcS → Prop} (h0 : (∀ i, i < (cls q (cvP q (cv c)) (cvg q (cv c))).length → x ≠ nI i) → ∀ t2, ST q C cv K T t2 → post 0 t2) (h1 : ∀ i, i < (cls q (cvP q (cv c)) (cvg q (cv c))).length → x = nI i → ∀ t2, ST q C cv K T t2 → LR t2 (cls q (cvP q (cv c)) (cvg q (cv c))) → post 1 t2) : q_X5_isThere t (nI c) x post := by
  have hlen := cls_450 hS.1.1 (hS.1.2.2 c hc) ho
  refine m_hasCl hS (fun hno => ?_) (fun _ _ _ _ => ⟨fun _ => m_needCl hS hc ho (fun t2 hS2 hL _ => ?_), fun z => absurd z i0⟩)
  · have := hno c hc rfl
    omega
  rw [hL.1]
  have e1 : (Int32.toInt64 (nI (cls q (cvP q (cv c)) (cvg q (cv c))).length - 1)).toInt = ((cls q (cvP q (cv c)) (cvg q (cv c))).length : Int) - 1 := by
    rw [ti_i]
    have a1 : (nI (cls q (cvP q (cv c)) (cvg q (cv c))).length).toInt = ((cls q (cvP q (cv c)) (cvg q (cv c))).length : Int) := nI_toInt (by omega)
    rw [fb_subI (by rw [a1, o32_1]; omega) (by rw [a1, o32_1]; omega), a1, o32_1]
  refine m_in (fun c => ⟨Or.inl rfl, h0 ?_ t2 hS2⟩) (fun c1 c2 => ⟨Or.inr rfl, ?_⟩)
  · rw [ti_i, ti_0, e1] at c
    exact no_ix (by omega) (by omega)
  · rw [ti_i] at c1
    rw [ti_0] at c1
    rw [e1, ti_i] at c2
    rcases ix_cases x (m := (cls q (cvP q (cv c)) (cvg q (cv c))).length) (by omega) with w | ⟨i, hi, e⟩
    · omega
    · exact h1 i hi e t2 hS2 hL
theorem m_isTh0 {q C : Nat} {cv : Nat → Nat × Nat × Nat} {K : Int32} {T : Int64} {t : fcS} (hS : ST q C cv K T t) {x y : Int32} (hno : ∀ c, c < C → x = nI c → cvd q (cv c) % 2 = 0) {post : Int32 → fcS → Prop} (h : post 0 t) : q_X5_isThere t x y post := by
  refine m_hasCl hS (fun _ => ⟨fun z => absurd rfl z, fun _ => h⟩) (fun c hc e ho => ?_)
  have := hno c hc e
  omega
/-- which one -/
theorem cls_neg {q g d a b : Nat} {P : PS q} (h : cvO P d g) (hm : (a, b) ∈ cls q P g) : ∃ b1 i1, i1 < (cls q P g).length ∧ pr (cls q P g) i1 = (a, b1) ∧ pn q b1 = psub pz (pn q b) := by
  have hq := h.1
  have hP : isPol P := ⟨_, h.2.1⟩
  obtain ⟨dd, h1, h2, h3, h4, m, im, h5⟩ := cls_C hq hP hm
  have e5 : psub P (pl_mul (psub pz (pn q b)) (psub pz (pn q b))) = pl_mul (pn q a) m := by
    rw [← h5]
    congr 1
    rw [pm_sub, pm_zr, pm_subr, pm_z]
    funext k
    show (0 : Fin (q + 1)) - (0 - pl_mul (pn q b) (pn q b) k) = pl_mul (pn q b) (pn q b) k
    generalize pl_mul (pn q b) (pn q b) k = y
    grind
  obtain ⟨a1, b1, hm1, ea, eb, l1, l2⟩ := C_cls hq hP (x := (pn q a, psub pz (pn q b))) ⟨dd, h1, h2, h3, dl_sub (fun _ _ => rfl) h4, m, im, e5⟩
  have l3 := pair_lt hq hm
  have hl := isP_lo hq
  have hs : (q + 1) ^ (g + 1) = (q + 1) ^ g * (q + 1) := Nat.pow_succ _ _
  have h4' : (q + 1) ^ g * 2 ≤ (q + 1) ^ g * (q + 1) := Nat.mul_le_mul_left _ (by omega)
  have k1 := pn_inj (n := g + 1) (by omega) (by omega) ea
  subst k1
  obtain ⟨i1, hi1, e1⟩ := pr_ex hm1
  exact ⟨b1, i1, hi1, e1, eb⟩
theorem scl_neg {q : Nat} (f : PS q) : pscl f (-1) = psub pz f := by
  funext k
  show f k * -1 = 0 - f k
  generalize f k = y
  grind
theorem Ni_pz {q : Nat} : Ni q (pz : PS q) = 0 := Ni_zero
theorem ok_28 : fOK_28 Inv := by
  intro t x y ⟨q, C, cv, K, T, hS⟩
  have hq := hS.1.1
  have hl := isP_lo hq
  have hC := hS.1.2.1
  have hq2 := (pow2_le (d := 0) hq (by omega)).2.2.2
  have h2 : (q + 1) ^ 2 < 2 ^ 30 := pw7 hq (by omega)
  refine c_list hS (fun hno => ⟨fun _ t1 e1 => ?_, fun i e => (nomatch e)⟩) (fun c hc ex ho hk => ⟨fun e => (nomatch e), fun i2 e2 => ⟨?_, ?_⟩⟩)
  · subst e1
    have h0 := ST_0 hS
    exact m_isTh0 h0 hno ⟨fun z => absurd rfl z, fun _ => ⟨rfl, ST_Inv h0⟩⟩
  · obtain rfl := Option.some.inj e2
    exact hk
  · obtain rfl := Option.some.inj e2
    subst ex
    have hV := hS.1.2.2 c hc
    obtain ⟨-, -, -, -, hP, hP7, hP0, -, -, g1', g2'⟩ := cv_is hq hV
    have hlen := cls_450 hq hV ho
    refine s_reach hS hc ho (fun hno t2 hS2 => ⟨fun z => absurd rfl z, fun _ t1 e1 => ?_⟩) (fun i hi ey t2 hS2 hL => ⟨fun _ => ?_, fun z => absurd z i0⟩)
    · subst e1
      exact m_isTh (ST_0 hS2) hc ho (fun _ t3 hS3 => ⟨fun z => absurd rfl z, fun _ => ⟨rfl, ST_Inv hS3⟩⟩) (fun i hi e => absurd e (hno i hi))
    · subst ey
      obtain ⟨⟨xa, xb⟩, exi⟩ : ∃ x, pr (cls q (cvP q (cv c)) (cvg q (cv c))) i = x := ⟨_, rfl⟩
      have hmem : (xa, xb) ∈ cls q (cvP q (cv c)) (cvg q (cv c)) := exi ▸ pr_mem hi
      refine s_at (by omega) (by omega) ?_
      rw [hL.2 i hi, exi]
      have bd := cls_bd hq g2' hmem
      obtain ⟨b1, i1, hi1, e1, eb⟩ := cls_neg (cv_O hq hV ho) hmem
      have bd1 := cls_bd hq g2' (e1 ▸ pr_mem hi1 : (xa, b1) ∈ cls q (cvP q (cv c)) (cvg q (cv c)))
      have hp2 := hS2.2.1.1.1
      refine s_uOf hq hp2 bd.1 bd.2 ?_
      refine s_vOf hq hp2 bd.1 bd.2 ?_
      have hb1 : Ni q (psub pz (pn q xb)) = nI b1 := by rw [← eb, ← Ni_pn hq h2 bd1.2]
      have key : ∀ post' : Int32 → fcS → Prop, post' (nI b1) t2 → q_X3_difference t2 0 (nI xb) post' := fun post' h => by
        rw [Ni_pn hq h2 bd.2, ← Ni_pz (q := q)]
        refine s_dif hq hp2 h2 (fun _ _ => rfl) (pn_dl bd.2) ?_
        show post' (Ni q (psub pz (pn q xb))) t2
        rw [hb1]; exact h
      refine key _ ?_
      show q_X0_placeOf t2 _ (nI xa * fgi t2 1 0 * fgi t2 1 0 + nI b1) _
      rw [show fgi t2 1 0 = nI (q + 1) from hp2, key_I]
      have hpl := s_placeOf (post := fun (r : Int32) (t1 : fcS) => q_X5_minus t1 (nI c) (nI i) (fun (r2 : Int32) (t2 : fcS) => r = r2 ∧ Inv t2)) hq g2' hlen hL hi1
      rw [e1] at hpl
      refine hpl (fun t3 e3 => ?_)
      subst e3
      refine m_isTh (ST_0 hS2) hc ho (fun hno => absurd rfl (hno i hi)) (fun i' hi' ei t4 hS4 hL4 => ⟨fun _ => ?_, fun z => absurd z i0⟩)
      have x16 : (q + 1) ^ 2 ≤ (q + 1) ^ 16 := Nat.pow_le_pow_right (by omega) (by omega)
      have l62 := (hL4.2 i hi).1
      have l63 := (hL4.2 i hi).2
      rw [exi] at l62 l63
      rw [nI_clamp (by omega), l63]
      refine ⟨vp_in_nI (by omega) (by omega), m_load (a := 20) hq hS4.2.2.1.1 (by omega) (by show xb < 2 ^ 31; omega) (by show xb < (q + 1) ^ 16; omega) (fun t5 e5 r5 => ?_)⟩
      have w5 := eqW_L e5
      rw [mp_m1 hq (RB_W hS4.2.2.1 w5).1]
      refine m_scl (a := 20) hq (RB_W hS4.2.2.1 w5).1 (by omega) _ r5 (fun t6 e6 r6 => ⟨vp_in_nI (by omega) (by omega), ?_⟩)
      rw [scl_neg] at r6
      have w6 := eqW_tr w5 (eqW_L e6)
      refine m_num (a := 20) hq (RB_W hS4.2.2.1 w6).1 (by omega) h2 r6 (dl_sub (fun _ _ => rfl) (pn_dl bd.2)) ?_
      rw [hb1, w6.2.2 62 (by omega), l62]
      have hfd := m_find (post := fun (r9 : Int32) (t8 : fcS) => nI i1 = r9 ∧ Inv t8) hq g2' hlen (LR_W hL4 w6) hi1
      rw [e1] at hfd
      exact hfd ⟨rfl, ST_Inv (ST_W hS4 w6)⟩
