/-! about, value, count, beyond -/
theorem ST_6 {q C : Nat} {cv : Nat → Nat × Nat × Nat} {K : Int32} {T : Int64} {t : fcS} (h : ST q C cv K T t) : fgi t 53 6 = nI C := h.2.2.2.2.2.2.2.1
theorem m_degOf {t : fcS} {q C : Nat} {cv : Nat → Nat × Nat × Nat} (hq : isP q) (hC : C ≤ 8) (hR : RC t q C cv) {c : Nat} (hc : c < C) (hV : cvV q (cv c)) {post : Int32 → fcS → Prop} (h : post (nI (cvd q (cv c))) t) : q_X5_degreeOf t (nI c) post := by
  obtain ⟨-, -, -, b4⟩ := hR c hc
  obtain ⟨d3, d6, -, -, hP, hP7, hP0, -⟩ := cv_is hq hV
  have hl := isP_lo hq
  have lp : ∀ k i, i = cvd q (cv c) + k → i < 16 → q_X5_degreeOf_3 post (k + 1) (nI c) (nI i) t := by
    intro k
    induction k with
    | zero =>
      intro i e hi
      unfold q_X5_degreeOf_3
      obtain ⟨x1, -, x3⟩ := ix (a := c) (i := i) (by omega) hi
      rw [x1, x3, b4 i hi]
      refine ⟨vp_in_nI (by omega) (by omega), fun _ => by rw [e]; exact h, fun z => ?_⟩
      exfalso
      refine hP0 (Fin.ext ?_)
      have ev : cvd q (cv c) = i := by omega
      rw [ev]
      exact (nI_eq (b := 0) (by have := (cvP q (cv c) i).isLt; omega) (by omega)).mp z
    | succ k ih =>
      intro i e hi
      unfold q_X5_degreeOf_3
      obtain ⟨x1, -, x3⟩ := ix (a := c) (i := i) (by omega) hi
      rw [x1, x3, b4 i hi, hP.1 i (by omega)]
      refine ⟨vp_in_nI (by omega) (by omega), fun z => absurd rfl z, fun _ x1 e1 => ?_⟩
      obtain ⟨i, rfl⟩ : ∃ j, i = j + 1 := ⟨i - 1, by omega⟩
      rw [e1, pk_m1]
      exact ih i (by omega) (by omega)
  exact ⟨_, lp (15 - cvd q (cv c)) 15 (by omega) (by omega)⟩
theorem m_genOf {t : fcS} {q C : Nat} {cv : Nat → Nat × Nat × Nat} (hq : isP q) (hC : C ≤ 8) (hR : RC t q C cv) {c : Nat} (hc : c < C) (hV : cvV q (cv c)) {post : Int32 → fcS → Prop} (h : post (nI (cvg q (cv c))) t) : q_X5_genusOf t (nI c) post := by
  obtain ⟨d3, d6, -⟩ := cv_is hq hV
  refine m_degOf hq hC hR hc hV ⟨fun z => ?_, fun z => ?_⟩
  · have := (nI_leI (a := 5) (by omega) (by omega)).mp z
    unfold cvg at h
    rw [if_neg (by omega)] at h; exact h
  · have : ¬ 5 ≤ cvd q (cv c) := fun w => z (show nI 5 ≤ _ from nI_le w (by omega))
    unfold cvg at h
    rw [if_pos (by omega)] at h; exact h
theorem m_loadOwn {t : fcS} {q C : Nat} {cv : Nat → Nat × Nat × Nat} (hq : isP q) (hC : C ≤ 8) (hR : RC t q C cv) {c a : Nat} (hc : c < C) (hV : cvV q (cv c)) (ha : a < 40) {post : fcS → Prop} (h : ∀ t2, eqL t t2 [a] → rwI t2 a (cvP q (cv c)) → post t2) : q_X5_loadOwn t (nI a) (nI c) post := by
  obtain ⟨-, -, -, b4⟩ := hR c hc
  obtain ⟨d3, d6, -, -, hP, hP7, hP0, -⟩ := cv_is hq hV
  have lp : ∀ d i (t1 : fcS), i + d = 16 → eqL t t1 [a] → (∀ j, j < i → fga t1 60 (16 * a + j) = nI (cvP q (cv c) j).val) → q_X5_loadOwn_2 post (d + 1) (nI a) (nI c) (nI i) t1 := by
    intro d
    induction d with
    | zero =>
      intro i t1 e e1 hx
      unfold q_X5_loadOwn_2
      have ei : i = 16 := by omega
      subst ei
      exact ⟨fun _ => h t1 e1 ⟨dl_mono hP7 (by omega), hx⟩, fun z => absurd (by decide) z⟩
    | succ d ih =>
      intro i t1 e e1 hx
      unfold q_X5_loadOwn_2
      obtain ⟨x1, x2, x3⟩ := ix (a := a) (i := i) (by omega) (by omega)
      obtain ⟨y1, -, y3⟩ := ix (a := c) (i := i) (by omega) (by omega)
      rw [x1, x3, y1, y3]
      refine ⟨fun z => absurd z (c16 (by omega)), fun _ => ⟨vp_in_nI (by omega) (by omega), x2, fun t2 e2 x4 e4 => ?_⟩⟩
      rw [e1.2.2.1 59 (by omega), b4 i (by omega)] at e2
      rw [e4, nI_1]
      subst e2
      refine ih (i + 1) _ (by omega) (eqL_fsa e1 (by simp) (by omega) _) (fun j hj => ?_)
      rw [ga_fsa]
      by_cases cj : j = i
      · rw [if_pos (by omega), cj]
      · rw [if_neg (by omega)]; exact hx j (by omega)
  exact ⟨_, lp 16 0 t (by omega) (eqL_rf t _) (fun j hj => by omega)⟩
theorem ok_14 : fOK_14 Inv := by
  intro t x y ⟨q, C, cv, K, T, hS⟩
  have hq := hS.1.1
  have hC := hS.1.2.1
  have h0 := ST_0 hS
  have hI := ST_Inv h0
  have o5 : (5 : Int64).toInt = 5 := by decide
  refine c_curve hS (fun hno => ⟨fun _ t1 e1 => ?_, fun i e => (nomatch e)⟩) (fun c hc ex hk => ⟨fun e => (nomatch e), fun i2 e2 => ⟨?_, ?_⟩⟩)
  · subst e1
    exact m_isCurve (ST_6 h0) hC (fun _ => ⟨fun _ => ⟨rfl, hI⟩, fun z => absurd rfl z⟩) (fun c hc e => absurd e (hno c hc))
  · obtain rfl := Option.some.inj e2
    exact hk
  · obtain rfl := Option.some.inj e2
    subst ex
    obtain ⟨⟨d1, d2, d3, d4, d5, d6, -, -⟩, -, -⟩ := hS.2.1.2.2 c hc
    obtain ⟨b1, b2, b3, b4⟩ := h0.2.2.2.2.1 c hc
    have hV := hS.1.2.2 c hc
    rw [d1, d2, d3, d4, d5, d6]
    have rf : ∀ (post : Int32 → fcS → Prop), q_X5_in (fsi t 53 0 0) (Int32.toInt64 y) 0 5 (fun (r5 : Int32) (t4 : fcS) => (¬ r5 = 0 → ((y = 0 → ((vp_in (nI c) 8) ∧ (post ((fga t4 56 (Int32.toNatClampNeg (nI c)))) t4))) ∧ (¬ y = 0 → ((y = 1 → ((vp_in (nI c) 8) ∧ (post ((fga t4 57 (Int32.toNatClampNeg (nI c)))) t4))) ∧ (¬ y = 1 → ((y = 2 → ((vp_in (nI c) 8) ∧ (post ((fga t4 58 (Int32.toNatClampNeg (nI c)))) t4))) ∧ (¬ y = 2 → ((y = 3 → (q_X5_degreeOf t4 (nI c) (fun (r7 : Int32) (t6 : fcS) => post r7 t6))) ∧ (¬ y = 3 → ((y = 4 → (q_X5_genusOf t4 (nI c) (fun (r9 : Int32) (t8 : fcS) => post r9 t8))) ∧ (¬ y = 4 → (q_X5_loadOwn t4 10 (nI c) (fun (t10 : fcS) => q_X5_number t10 10 (fun (r12 : Int32) (t11 : fcS) => post r12 t11)))))))))))))) ∧ (r5 = 0 → (post ((-1)) t4))) → q_X5_about t (nI c) y post := fun post h t1 e1 => by
      subst e1
      exact m_isCurve (ST_6 h0) hC (fun hno => absurd rfl (hno c hc)) (fun _ _ _ => ⟨fun z => absurd z i0, fun _ => h⟩)
    rcases ix_cases y (m := 6) (by omega) with w | ⟨j, hj, rfl⟩
    · have hno := no_ix (by omega) w
      have rb : q_X5_about t (nI c) y (fun r2 t2 => (-1 : Int32) = r2 ∧ Inv t2) := rf _ (m_in (fun _ => ⟨fun z => absurd rfl z, fun _ => ⟨rfl, hI⟩⟩) (fun c1 c2 => by
        rw [ti_i] at c1 c2
        rw [ti_0] at c1
        rw [o5] at c2
        omega))
      exact ⟨fun z => absurd z (hno 0 (by omega)), fun _ => ⟨fun z => absurd z (hno 1 (by omega)), fun _ => ⟨fun z => absurd z (hno 2 (by omega)), fun _ => ⟨fun z => absurd z (hno 3 (by omega)), fun _ => ⟨fun z => absurd z (hno 4 (by omega)), fun _ => ⟨fun z => absurd z (hno 5 (by omega)), fun _ => rb⟩⟩⟩⟩⟩⟩
    · have ra : ∀ (post : Int32 → fcS → Prop) {P : Int32 → fcS → Prop}, P 1 (fsi t 53 0 0) → q_X5_in (fsi t 53 0 0) (Int32.toInt64 (nI j)) 0 5 P := fun post P h => m_in (fun c1 => by
        rw [ti_i, ti_0, o5, nI_toInt (by omega)] at c1
        omega) (fun _ _ => h)
      have ec : Int32.toNatClampNeg (nI c) = c := nI_clamp (by omega)
      have v8 : vp_in (nI c) 8 := vp_in_nI (by omega) (by omega)
      match j, hj with
      | 0, _ =>
        refine ⟨fun _ => rf _ (ra (fun _ _ => True) ⟨fun _ => ⟨fun _ => ⟨v8, ?_, hI⟩, fun z => absurd rfl z⟩, fun z => absurd z i0⟩), fun z => absurd rfl z⟩
        rw [ec, b1]
      | 1, _ =>
        refine ⟨fun z => absurd z (by decide), fun _ => ⟨fun _ => rf _ (ra (fun _ _ => True) ⟨fun _ => ⟨fun z => absurd z (by decide), fun _ => ⟨fun _ => ⟨v8, ?_, hI⟩, fun z => absurd rfl z⟩⟩, fun z => absurd z i0⟩), fun z => absurd rfl z⟩⟩
        rw [ec, b2]
      | 2, _ =>
        refine ⟨fun z => absurd z (by decide), fun _ => ⟨fun z => absurd z (by decide), fun _ => ⟨fun _ => rf _ (ra (fun _ _ => True) ⟨fun _ => ⟨fun z => absurd z (by decide), fun _ => ⟨fun z => absurd z (by decide), fun _ => ⟨fun _ => ⟨v8, ?_, hI⟩, fun z => absurd rfl z⟩⟩⟩, fun z => absurd z i0⟩), fun z => absurd rfl z⟩⟩⟩
        rw [ec, b3]
      | 3, _ =>
        refine ⟨fun z => absurd z (by decide), fun _ => ⟨fun z => absurd z (by decide), fun _ => ⟨fun z => absurd z (by decide), fun _ => ⟨fun _ => rf _ (ra (fun _ _ => True) ⟨fun _ => ⟨fun z => absurd z (by decide), fun _ => ⟨fun z => absurd z (by decide), fun _ => ⟨fun z => absurd z (by decide), fun _ => ⟨fun _ => ?_, fun z => absurd rfl z⟩⟩⟩⟩, fun z => absurd z i0⟩), fun z => absurd rfl z⟩⟩⟩⟩
        exact m_degOf hq hC h0.2.2.2.2.1 hc hV ⟨rfl, hI⟩
      | 4, _ =>
        refine ⟨fun z => absurd z (by decide), fun _ => ⟨fun z => absurd z (by decide), fun _ => ⟨fun z => absurd z (by decide), fun _ => ⟨fun z => absurd z (by decide), fun _ => ⟨fun _ => rf _ (ra (fun _ _ => True) ⟨fun _ => ⟨fun z => absurd z (by decide), fun _ => ⟨fun z => absurd z (by decide), fun _ => ⟨fun z => absurd z (by decide), fun _ => ⟨fun z => absurd z (by decide), fun _ => ⟨fun _ => ?_, fun z => absurd rfl z⟩⟩⟩⟩⟩, fun z => absurd z i0⟩), fun z => absurd rfl z⟩⟩⟩⟩⟩
        exact m_genOf hq hC h0.2.2.2.2.1 hc hV ⟨rfl, hI⟩
      | 5, _ =>
        refine ⟨fun z => absurd z (by decide), fun _ => ⟨fun z => absurd z (by decide), fun _ => ⟨fun z => absurd z (by decide), fun _ => ⟨fun z => absurd z (by decide), fun _ => ⟨fun z => absurd z (by decide), fun _ => ⟨fun _ => rf _ (ra (fun _ _ => True) ⟨fun _ => ⟨fun z => absurd z (by decide), fun _ => ⟨fun z => absurd z (by decide), fun _ => ⟨fun z => absurd z (by decide), fun _ => ⟨fun z => absurd z (by decide), fun _ => ⟨fun z => absurd z (by decide), fun _ => ?_⟩⟩⟩⟩⟩, fun z => absurd z i0⟩), fun z => absurd rfl z⟩⟩⟩⟩⟩⟩
        obtain ⟨-, -, -, -, hP, hP7, hP0, -⟩ := cv_is hq hV
        refine m_loadOwn (a := 10) hq hC h0.2.2.2.2.1 hc hV (by omega) (fun t2 e2 r2 => ?_)
        exact m_num hq (eqL_mp e2 h0.2.2.1.1) (by omega) (pw7 hq (by omega)) r2 hP7 ⟨rfl, ST_Inv (ST_W h0 (eqW_L e2))⟩
/-- the reference's values -/
theorem l_mval {t : fcS} {q n c x v : Nat} {P : PS q} (hB : RB t q) (hf : fl q n) (hc : c < 8) (hP : ∀ i, i < 16 → fga t 59 (16 * c + i) = nI (P i).val) (hx : x < (q + 1) ^ n) {post : Int32 → fcS → Prop} (hh : ∀ t2, eqW t t2 → post (nI v) t2) : ∀ k a (t1 : fcS), k ≤ 7 → a < (q + 1) ^ n → hv q n P x a k = v → eqW t t1 → q_X5_valueOf_7 post (k + 1) (nI c) (nI n) (nI x) (nI a) (nI k + (-1)) t1 := by
  have hs := fl_sz hf
  intro k
  induction k with
  | zero =>
    intro a t1 _ ha e e1
    unfold q_X5_valueOf_7
    refine ⟨fun _ => ?_, fun z => absurd (by decide) z⟩
    have : a = v := e
    rw [this]; exact hh t1 e1
  | succ k ih =>
    intro a t1 hk ha e e1
    unfold q_X5_valueOf_7
    rw [pk_m1]
    refine ⟨fun z => absurd z (nI_pos (by omega)), fun _ => m_prod (RB_W hB e1) hf ha hx (fun t2 e2 => ?_)⟩
    obtain ⟨x1, -, x3⟩ := ix (a := c) (i := k) (by omega) (by omega)
    rw [x1, x3, e2.2.2 59 (by omega), e1.2.2 59 (by omega), hP k (by omega)]
    have hB2 := RB_W (RB_W hB e1) e2
    refine ⟨vp_in_nI (by omega) (by omega), m_sum hf.1 hB2.1 hs.2.2 (ml_lt q n a x) (pl1 hf (P k)) (fun x5 e5 => ?_)⟩
    rw [e5]
    refine ih _ t2 (by omega) (ad_lt hf.1 hs.2.2 (ml_lt q n a x) (pl1 hf (P k))).1 ?_ (eqW_tr e1 e2)
    rw [← e, hv_s]
theorem m_valOf {t : fcS} {q n c x : Nat} {P : PS q} (hB : RB t q) (hf : fl q n) (hc : c < 8) (hP : ∀ i, i < 16 → fga t 59 (16 * c + i) = nI (P i).val) (hx : x < (q + 1) ^ n) {post : Int32 → fcS → Prop} (hh : ∀ t2, eqW t t2 → post (nI (vl q n P x)) t2) : q_X5_valueOf t (nI c) (nI n) (nI x) post :=
  ⟨_, l_mval hB hf hc hP hx hh 7 0 t (by omega) (by have := fl_sz hf; omega) rfl (eqW_rf t)⟩
theorem RC_own {t : fcS} {q C c : Nat} {cv : Nat → Nat × Nat × Nat} (h : RC t q C cv) (hc : c < C) : ∀ i, i < 16 → fga t 59 (16 * c + i) = nI (cvP q (cv c) i).val := (h c hc).2.2.2
theorem s_atS {t : fcS} {k : Nat} (hk : k ≤ 2) {post : Int32 → fcS → Prop} (h : post (fTR k) t) : q_X4_atS t (nI k) post := by
  refine ⟨fun z => absurd z (nI_pos (by omega)), fun _ => ⟨fun z => absurd z (show ¬ nI 3 ≤ nI k from nI_ge (by omega) (by omega)), fun _ => ⟨vp_in_nI (by omega) (by omega), ?_⟩⟩⟩
  rw [nI_clamp (by omega)]; exact h
theorem gj_fsj (t : fcS) (k j : Nat) (v : Int64) : fgj (fsj t k j v) k j = v := by
  unfold fgj fsj
  exact if_pos ⟨rfl, rfl⟩
theorem i_shuf (a b c : Int32) : a + b + (1 + c) = a + 1 + (b + c) := by
  rw [Int32.add_assoc, Int32.add_assoc, ← Int32.add_assoc b, Int32.add_comm b 1, Int32.add_assoc 1]
theorem IC_T {t : fcS} {q C : Nat} {cv : Nat → Nat × Nat × Nat} {K : Int32} {T : Int64} (h : IC q C cv K T t) (T2 : Int64) : IC q C cv K T2 (fsj t 0 9 T2) :=
  ⟨⟨h.1.1, h.1.2.1, h.1.2.2.1, h.1.2.2.2.1, h.1.2.2.2.2.1, gj_fsj t 0 9 T2⟩, h.2.1, h.2.2⟩
theorem IR_T {t : fcS} {q C : Nat} {cv : Nat → Nat × Nat × Nat} {K : Int32} {T : Int64} (h : IR q C cv K T t) (T2 : Int64) : IR q C cv K T2 (fsj t 53 12 T2) :=
  ⟨h.1, h.2.1, h.2.2.1, h.2.2.2.1, h.2.2.2.2.1, h.2.2.2.2.2.1, h.2.2.2.2.2.2.1, gj_fsj t 53 12 T2⟩
theorem sameR_fsj (t : fcS) (v : Int64) : sameR t (fsj t 0 9 v) := fun k hk => ⟨fun _ => rfl, rfl, fun j => if_neg (by omega), rfl⟩
theorem sameC_fsj (t : fcS) (v : Int64) : sameC t (fsj t 53 12 v) := fun k hk => ⟨fun _ => rfl, rfl, fun j => if_neg (by omega), rfl⟩
theorem ok_15 : fOK_15 Inv := by
  intro t x y z ⟨q, C, cv, K, T, hS⟩
  have hq := hS.1.1
  have hC := hS.1.2.1
  have rb : ∀ t2, ST q C cv K T t2 → (∀ c, c < C → x ≠ nI c) → q_X5_value t2 x y z (fun r2 t3 => (-1 : Int32) = r2 ∧ Inv t3) := fun t2 h2 hno t1 e1 => by
    subst e1
    have h0 := ST_0 h2
    exact m_isCurve (ST_6 h0) hC (fun _ => ⟨fun _ => ⟨rfl, ST_Inv h0⟩, fun z => absurd rfl z⟩) (fun c hc e => absurd e (hno c hc))
  refine c_curve hS (fun hno => ⟨fun _ => c_field hS (fun _ => ⟨fun _ => rb t hS hno, fun i e => (nomatch e)⟩) (fun n g t2 _ _ _ hS2 _ hk => ⟨fun e => (nomatch e), fun i2 e2 => ⟨Option.some.inj e2 ▸ hk, rb t2 hS2 hno⟩⟩), fun i e => (nomatch e)⟩) (fun c hc ex hkc => ⟨fun e => (nomatch e), fun i2 e2 => ?_⟩)
  obtain rfl := Option.some.inj e2
  subst ex
  refine ⟨hkc, ?_⟩
  have hV := hS.1.2.2 c hc
  obtain ⟨-, -, -, -, hP, hP7, hP0, -⟩ := cv_is hq hV
  have rc : ∀ t2, ST q C cv K T t2 → ∀ post : Int32 → fcS → Prop, q_X5_isNumber (fsi t2 53 0 0) y z (fun (r5 : Int32) (t4 : fcS) => (¬ r5 = 0 → ((vp_in (nI c) 8) ∧ ((¬ (fga t4 56 (Int32.toNatClampNeg (nI c))) = 0 → ((vp_in (nI c) 8) ∧ ((¬ (fga t4 56 (Int32.toNatClampNeg (nI c))) = 1 → (∀ t6 : fcS, t6 = fsj t4 53 12 (((fgj t4 53 12) + 111)) → (q_X5_valueOf t6 (nI c) y z (fun (r8 : Int32) (t7 : fcS) => post r8 t7)))) ∧ ((fga t4 56 (Int32.toNatClampNeg (nI c))) = 1 → (∀ t9 : fcS, t9 = fsj t4 53 12 (((fgj t4 53 12) + 11)) → (q_X5_valueOf t9 (nI c) y z (fun (r11 : Int32) (t10 : fcS) => post r11 t10))))))) ∧ ((fga t4 56 (Int32.toNatClampNeg (nI c))) = 0 → (∀ t12 : fcS, t12 = fsj t4 53 12 (((fgj t4 53 12) + 1)) → (q_X5_valueOf t12 (nI c) y z (fun (r14 : Int32) (t13 : fcS) => post r14 t13))))))) ∧ (r5 = 0 → (post ((-1)) t4))) → q_X5_value t2 (nI c) y z post := fun t2 h2 post h t1 e1 => by
    subst e1
    exact m_isCurve (ST_6 (ST_0 h2)) hC (fun hno => absurd rfl (hno c hc)) (fun _ _ _ => ⟨fun z => absurd z i0, fun _ => h⟩)
  refine c_field hS (fun hno => ⟨fun _ => ?_, fun i e => (nomatch e)⟩) (fun n g t2 hf ey ef hS2 ht hk => ⟨fun e => (nomatch e), fun i2 e2 => ?_⟩)
  · have h0 := ST_0 hS
    exact rc t hS _ (m_num0 h0.2.2.1 hq hno ⟨fun z => absurd rfl z, fun _ => ⟨rfl, ST_Inv h0⟩⟩)
  · obtain rfl := Option.some.inj e2
    subst ey
    have h0 := ST_0 hS2
    have hs := fl_sz hf
    refine ⟨hk, s_has hf ht (fun c => ⟨fun z => absurd rfl z, fun _ => ?_⟩) (fun a ha ea => ⟨fun _ => ?_, fun z => absurd z i0⟩)⟩
    · exact rc t2 hS2 _ (m_num1 h0.2.2.1 hf c ⟨fun z => absurd rfl z, fun _ => ⟨rfl, ST_Inv h0⟩⟩)
    · subst ea
      obtain ⟨⟨d1, d2, d3, d4, d5, d6, -, -⟩, -, -⟩ := hS2.2.1.2.2 c hc
      rw [d1]
      refine s_atS hV.1 (fun t11 e11 => ?_)
      have ej : fgj t2 0 9 = T := hS2.2.1.1.2.2.2.2.2
      rw [ej] at e11
      have hI3 : IC q C cv K (T + Int32.toInt64 (fTR (cv c).1)) t11 := by subst e11; exact IC_T hS2.2.1 _
      have hR3 : IR q C cv K T t11 := by subst e11; exact IR_same hS2.2.2 (sameR_fsj t2 _)
      have d6' : fgi t11 (21 + 4 * c) 9 = Ni q (cvP q (cv c)) := by subst e11; exact d6
      have ht3 : tb t11 q n (6 + 3 * (n - 1)) g := by subst e11; exact ht
      rw [d6']
      refine s_val hf hI3.1.1 ht3 ha hP7 hP (fun t1 e1 => ?_)
      subst e1
      have hR0 := IR_0 hR3
      have hI0 := IC_same hI3 hC (sameC_fsi t11 0 0)
      have e12 : fgj (fsi t11 53 0 0) 53 12 = T := hR0.2.2.2.2.2.2.2
      have fin : ∀ (T2 : Int64) (t6 : fcS), T2 = T + Int32.toInt64 (fTR (cv c).1) → t6 = fsj (fsi t11 53 0 0) 53 12 T2 → q_X5_valueOf t6 (nI c) (nI n) (nI a) (fun r2 t3 => nI (vl q n (cvP q (cv c)) a) = r2 ∧ Inv t3) := fun T2 t6 eT e6 => by
        have hR6 : IR q C cv K T2 t6 := by subst e6; exact IR_T hR0 T2
        have hI6 : IC q C cv K T2 t6 := by subst e6 eT; exact IC_same hI0 hC (sameC_fsj _ _)
        exact m_valOf hR6.1 hf (by omega) (RC_own hR6.2.2.1 hc) ha (fun t7 e7 => ⟨rfl, ST_Inv (ST_W ⟨hS.1, hI6, hR6⟩ e7)⟩)
      refine m_isCurve hR0.2.2.2.2.2.1 hC (fun hno => absurd rfl (hno c hc)) (fun _ _ _ => ⟨fun z => absurd z i0, fun _ => ?_⟩)
      refine m_num2 hR0.1 hf ha ⟨fun _ => ⟨vp_in_nI (by omega) (by omega), ?_⟩, fun z => absurd z i0⟩
      have ek : fga (fsi t11 53 0 0) 56 (Int32.toNatClampNeg (nI c)) = nI (cv c).1 := by
        rw [nI_clamp (by omega)]; exact (hR0.2.2.1 c hc).1
      have hk2 := hV.1
      rw [ek, e12]
      refine ⟨fun c1 => ⟨vp_in_nI (by omega) (by omega), fun c2 t6 e6 => fin _ t6 ?_ e6, fun c2 t6 e6 => fin _ t6 ?_ e6⟩, fun c1 t6 e6 => fin _ t6 ?_ e6⟩
      · have k0 : (cv c).1 ≠ 0 := fun z => c1 (by rw [z]; rfl)
        have k1 : (cv c).1 ≠ 1 := fun z => c2 (by rw [z]; rfl)
        have k2 : (cv c).1 = 2 := by omega
        rw [k2]; rfl
      · have k1 : (cv c).1 = 1 := (nI_eq (b := 1) (by omega) (by omega)).mp c2
        rw [k1]; rfl
      · have k0 : (cv c).1 = 0 := (nI_eq (b := 0) (by omega) (by omega)).mp c1
        rw [k0]; rfl
/-- BEYOND and COUNT of the reference -/
theorem m_bydOf {t : fcS} {q n C c : Nat} {cv : Nat → Nat × Nat × Nat} (hB : RB t q) (hS : RS t q) (hR : RC t q C cv) (hf : fl q n) (hC : C ≤ 8) (hc : c < C) (hV : cvV q (cv c)) {post : Int32 → fcS → Prop} (hh : ∀ t2, eqX t t2 → RS t2 q → (∀ a, a < (q + 1) ^ n → fga t2 61 a = sg q n a) → post (byd q n (cvP q (cv c)) (cvd q (cv c))) t2) : q_X5_beyondOf t (nI c) (nI n) post := by
  have hq := hf.1
  have hl := isP_lo hq
  obtain ⟨d3, d6, -, -, hP, hP7, hP0, -⟩ := cv_is hq hV
  refine m_degOf hq hC hR hc hV (m_signsx hB hS hf (fun t2 e2 hS2 hx => ⟨by decide, ?_⟩))
  have h2 := hh t2 e2 hS2 hx
  unfold byd at h2
  have ed : irm (nI (cvd q (cv c))) 2 = nI (cvd q (cv c) % 2) := rem_nI (d := 2) (by omega) (by omega) (by omega)
  obtain ⟨x1, -, x3⟩ := ix (a := c) (i := cvd q (cv c)) (by omega) (by omega)
  have hv13 := (cvP q (cv c) (cvd q (cv c))).isLt
  rw [ed, x1, x3, e2.1.2.1 59 (by omega) (by omega) (by omega) (by omega), RC_own hR hc _ (by omega), nI_clamp (by omega), hx _ (pl1 hf _)]
  by_cases cd : cvd q (cv c) % 2 = 1
  · rw [if_pos cd] at h2
    rw [cd]
    exact ⟨fun z => absurd rfl z, fun _ => h2⟩
  · rw [if_neg cd] at h2
    have c0 : cvd q (cv c) % 2 = 0 := by omega
    rw [c0]
    refine ⟨fun _ => ⟨vp_in_nI (by omega) (by omega), vp_in_nI (by omega) (by omega), fun z => ?_, fun z => ?_⟩, fun z => absurd z (by decide)⟩
    · rw [if_neg z] at h2; exact h2
    · rw [if_pos z] at h2; exact h2
theorem m_cntOf {t : fcS} {q n C c : Nat} {cv : Nat → Nat × Nat × Nat} (hB : RB t q) (hS : RS t q) (hR : RC t q C cv) (hf : fl q n) (hC : C ≤ 8) (hc : c < C) (hV : cvV q (cv c)) {post : Int32 → fcS → Prop} (hh : ∀ t2, eqX t t2 → RS t2 q → post (cnt q n (cvP q (cv c)) (cvd q (cv c))) t2) : q_X5_countOf t (nI c) (nI n) post := by
  have hq := hf.1
  have hs := fl_sz hf
  have hn := hf.2
  have hn5 := (nfd_ok hq).2
  refine m_signsx hB hS hf (fun t2 e2 hS2 hx => ?_)
  have lp : ∀ d x (t1 : fcS), x + d = (q + 1) ^ n → eqW t2 t1 → q_X5_countOf_10 post (d + 1) (nI c) (nI n) (nI x + ssm q n (cvP q (cv c)) x) (nI x) t1 := by
    intro d
    induction d with
    | zero =>
      intro x t1 e e1
      unfold q_X5_countOf_10
      have hB1 := RB_W (RB_U hB e2.1) e1
      have ex : x = (q + 1) ^ n := by omega
      rw [nI_clamp (by omega), (hB1.2.2 n hn.1 hn.2).1]
      refine ⟨vp_in_nI (by omega) (by omega), fun _ => ?_, fun z => absurd (nI_le (by omega) (by omega)) z⟩
      refine m_bydOf hB1 (RS_W hS2 e1) (RC_U (RC_U hR e2.1) (eqU_W e1)) hf hC hc hV (fun t3 e3 hS3 _ => ?_)
      rw [ex]
      exact hh t3 (eqX_tr e2 (eqX_tr (eqX_W e1) e3)) hS3
    | succ d ih =>
      intro x t1 e e1
      unfold q_X5_countOf_10
      have hB1 := RB_W (RB_U hB e2.1) e1
      rw [nI_clamp (by omega), (hB1.2.2 n hn.1 hn.2).1]
      refine ⟨vp_in_nI (by omega) (by omega), fun z => absurd z (nI_ge (by omega) (by omega)), fun _ => ?_⟩
      refine m_valOf hB1 hf (by omega) (RC_own (RC_U (RC_U hR e2.1) (eqU_W e1)) hc) (by omega) (fun t3 e3 => ?_)
      have hvl := vl_lt hf (cvP q (cv c)) x
      rw [nI_clamp (by omega), e3.2.2 61 (by omega), e1.2.2 61 (by omega), hx _ hvl]
      refine ⟨vp_in_nI (by omega) (by omega), fun x6 e6' x7 e7 => ?_⟩
      have es : x6 = nI (x + 1) + ssm q n (cvP q (cv c)) (x + 1) := by
        rw [e6', ← nI_1, show ssm q n (cvP q (cv c)) (x + 1) = ssm q n (cvP q (cv c)) x + sg q n (vl q n (cvP q (cv c)) x) from rfl]
        exact i_shuf _ _ _
      rw [es, e7, nI_1]
      exact ih (x + 1) t3 (by omega) (eqW_tr e1 e3)
  have := lp ((q + 1) ^ n) 0 t2 (by omega) (eqW_rf t2)
  rw [show nI 0 + ssm q n (cvP q (cv c)) 0 = 0 from rfl] at this
  exact ⟨_, this⟩
theorem ok_16 : fOK_16 Inv := by
  intro t x y ⟨q, C, cv, K, T, hS⟩
  have hq := hS.1.1
  have hC := hS.1.2.1
  have rb : ∀ t2, ST q C cv K T t2 → (∀ c, c < C → x ≠ nI c) → q_X5_count t2 x y (fun r2 t3 => (-1 : Int32) = r2 ∧ Inv t3) := fun t2 h2 hno t1 e1 => by
    subst e1
    have h0 := ST_0 h2
    exact m_isCurve (ST_6 h0) hC (fun _ => ⟨fun _ => ⟨rfl, ST_Inv h0⟩, fun z => absurd rfl z⟩) (fun c hc e => absurd e (hno c hc))
  refine c_curve hS (fun hno => ⟨fun _ => c_field hS (fun _ => ⟨fun _ => rb t hS hno, fun i e => (nomatch e)⟩) (fun n g t2 _ _ _ hS2 _ hk => ⟨fun e => (nomatch e), fun i2 e2 => ⟨Option.some.inj e2 ▸ hk, rb t2 hS2 hno⟩⟩), fun i e => (nomatch e)⟩) (fun c hc ex hkc => ⟨fun e => (nomatch e), fun i2 e2 => ?_⟩)
  obtain rfl := Option.some.inj e2
  subst ex
  refine ⟨hkc, ?_⟩
  have hV := hS.1.2.2 c hc
  obtain ⟨-, -, -, -, hP, hP7, hP0, -⟩ := cv_is hq hV
  refine c_field hS (fun hno => ⟨fun _ t1 e1 => ?_, fun i e => (nomatch e)⟩) (fun n g t2 hf ey ef hS2 ht hk => ⟨fun e => (nomatch e), fun i2 e2 => ?_⟩)
  · subst e1
    have h0 := ST_0 hS
    exact m_isCurve (ST_6 h0) hC (fun hno => absurd rfl (hno c hc)) (fun _ _ _ => ⟨fun z => absurd z i0, fun _ => m_isField h0.2.2.1 hq (fun _ => ⟨fun _ => ⟨rfl, ST_Inv h0⟩, fun z => absurd rfl z⟩) (fun n hf e => absurd e (hno n hf))⟩)
  · obtain rfl := Option.some.inj e2
    subst ey
    have h0 := ST_0 hS2
    refine ⟨hk, ?_⟩
    rw [(hS2.2.1.2.2 c hc).1.2.2.2.2.2.1]
    refine s_pts hf hS2.2.1.1.1 ht hP7 hP (fun t1 e1 => ?_)
    subst e1
    refine m_isCurve (ST_6 h0) hC (fun hno => absurd rfl (hno c hc)) (fun _ _ _ => ⟨fun z => absurd z i0, fun _ => m_isField h0.2.2.1 hq (fun hno => absurd rfl (hno n hf)) (fun _ _ _ => ⟨fun z => absurd z i0, fun _ => ?_⟩)⟩)
    exact m_cntOf h0.2.2.1 h0.2.2.2.1 h0.2.2.2.2.1 hf hC hc hV (fun t3 e3 hS3 => ⟨rfl, ST_Inv (ST_U h0 e3.1 hS3)⟩)
theorem ok_17 : fOK_17 Inv := by
  intro t x y ⟨q, C, cv, K, T, hS⟩
  have hq := hS.1.1
  have hC := hS.1.2.1
  have rb : ∀ t2, ST q C cv K T t2 → (∀ c, c < C → x ≠ nI c) → q_X5_beyond t2 x y (fun r2 t3 => (-1 : Int32) = r2 ∧ Inv t3) := fun t2 h2 hno t1 e1 => by
    subst e1
    have h0 := ST_0 h2
    exact m_isCurve (ST_6 h0) hC (fun _ => ⟨fun _ => ⟨rfl, ST_Inv h0⟩, fun z => absurd rfl z⟩) (fun c hc e => absurd e (hno c hc))
  refine c_curve hS (fun hno => ⟨fun _ => c_field hS (fun _ => ⟨fun _ => rb t hS hno, fun i e => (nomatch e)⟩) (fun n g t2 _ _ _ hS2 _ hk => ⟨fun e => (nomatch e), fun i2 e2 => ⟨Option.some.inj e2 ▸ hk, rb t2 hS2 hno⟩⟩), fun i e => (nomatch e)⟩) (fun c hc ex hkc => ⟨fun e => (nomatch e), fun i2 e2 => ?_⟩)
  obtain rfl := Option.some.inj e2
  subst ex
  refine ⟨hkc, ?_⟩
  have hV := hS.1.2.2 c hc
  obtain ⟨-, -, -, -, hP, hP7, hP0, -⟩ := cv_is hq hV
  refine c_field hS (fun hno => ⟨fun _ t1 e1 => ?_, fun i e => (nomatch e)⟩) (fun n g t2 hf ey ef hS2 ht hk => ⟨fun e => (nomatch e), fun i2 e2 => ?_⟩)
  · subst e1
    have h0 := ST_0 hS
    exact m_isCurve (ST_6 h0) hC (fun hno => absurd rfl (hno c hc)) (fun _ _ _ => ⟨fun z => absurd z i0, fun _ => m_isField h0.2.2.1 hq (fun _ => ⟨fun _ => ⟨rfl, ST_Inv h0⟩, fun z => absurd rfl z⟩) (fun n hf e => absurd e (hno n hf))⟩)
  · obtain rfl := Option.some.inj e2
    subst ey
    have h0 := ST_0 hS2
    refine ⟨hk, ?_⟩
    rw [(hS2.2.1.2.2 c hc).1.2.2.2.2.2.1]
    refine s_byd hf hS2.2.1.1.1 ht hP7 hP (fun t1 e1 => ?_)
    subst e1
    refine m_isCurve (ST_6 h0) hC (fun hno => absurd rfl (hno c hc)) (fun _ _ _ => ⟨fun z => absurd z i0, fun _ => m_isField h0.2.2.1 hq (fun hno => absurd rfl (hno n hf)) (fun _ _ _ => ⟨fun z => absurd z i0, fun _ => ?_⟩)⟩)
    exact m_bydOf h0.2.2.1 h0.2.2.2.1 h0.2.2.2.2.1 hf hC hc hV (fun t3 e3 hS3 _ => ⟨rfl, ST_Inv (ST_U h0 e3.1 hS3)⟩)
