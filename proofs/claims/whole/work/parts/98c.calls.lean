/-! isClass, classes, classAt, minus -/
theorem rng_uq {q d d' u : Nat} (hq : isP q) (h1 : (q + 1) ^ d ≤ u) (h2 : u < 2 * (q + 1) ^ d) (h1' : (q + 1) ^ d' ≤ u) (h2' : u < 2 * (q + 1) ^ d') : d = d' := by
  have hl := isP_lo hq
  have key : ∀ a b, a < b → (q + 1) ^ b ≤ u → u < 2 * (q + 1) ^ a → False := fun a b hab x1 x2 => by
    have k1 : (q + 1) ^ (a + 1) ≤ (q + 1) ^ b := Nat.pow_le_pow_right (by omega) (by omega)
    have k2 : (q + 1) ^ (a + 1) = (q + 1) ^ a * (q + 1) := Nat.pow_succ _ _
    have k3 : (q + 1) ^ a * 2 ≤ (q + 1) ^ a * (q + 1) := Nat.mul_le_mul_left _ (by omega)
    omega
  rcases Nat.lt_trichotomy d d' with w | w | w
  · exact (key d d' w h1' h2).elim
  · exact w
  · exact (key d' d w h1 h2').elim
theorem cls_rng {q g d u v : Nat} {P : PS q} (hq : isP q) (h1 : (q + 1) ^ d ≤ u) (h2 : u < 2 * (q + 1) ^ d) (hd : d ≤ g) : (u, v) ∈ cls q P g ↔ v < (q + 1) ^ d ∧ gd q P u v := by
  rw [cls_mem]
  constructor
  · rintro ⟨d', a1, a2, a3, a4, a5⟩
    have := rng_uq hq h1 h2 a2 a3
    subst this
    exact ⟨a4, a5⟩
  · rintro ⟨a4, a5⟩
    exact ⟨d, hd, h1, h2, a4, a5⟩
theorem s_holds {t : fcS} {q k g u v : Nat} {P : PS q} (hq : isP q) (hP : dl P 7) (hp : rp t q) (h2' : fgi t k 2 = Ni q P) (h3' : fgi t k 3 = nI g) (hg : g ≤ 2) (hu : u < 2 ^ 31) (hv : v < 2 ^ 31) {post : Int32 → fcS → Prop} (k1 : (u, v) ∈ cls q P g → post 1 t) (k0 : (u, v) ∉ cls q P g → post 0 t) : q_X0_holds t k (nI u) (nI v) post := by
  have hl := isP_lo hq
  have h7 : (q + 1) ^ 7 < 2 ^ 30 := pw7 hq (by omega)
  have lp : ∀ c d, d + c = g + 1 → (∀ d', d' < d → ¬ ((q + 1) ^ d' ≤ u ∧ u < 2 * (q + 1) ^ d')) → q_X0_holds_2 k post (c + 1) (nI u) (nI v) (nI d) t := by
    intro c
    induction c with
    | zero =>
      intro d e hno
      have ed : d = g + 1 := by omega
      subst ed
      unfold q_X0_holds_2
      rw [h3']
      refine ⟨fun _ => k0 (fun hm => ?_), fun z => absurd (nI_lt (by omega) (by omega)) z⟩
      obtain ⟨d', a1, a2, a3, -⟩ := cls_mem.mp hm
      exact hno d' (by omega) ⟨a2, a3⟩
    | succ c ih =>
      intro d e hno
      unfold q_X0_holds_2
      rw [h3']
      obtain ⟨a1, a2, a3, a4⟩ := pow2_le (d := d) hq (by omega)
      refine ⟨fun z => absurd z (nI_nlt (by omega) (by omega)), fun _ => s_place hp (by omega) (by omega) ?_⟩
      rw [show (2 : Int32) = nI 2 from rfl, pk_mul]
      refine ⟨fun w x3 ex => ?_, fun w => ⟨fun w2 x4 ex => ?_, fun w2 => ⟨fun w3 => ?_, fun w3 => ?_⟩⟩⟩
      · rw [ex, nI_1]
        refine ih (d + 1) (by omega) (fun d' hd' h => ?_)
        by_cases cd : d' = d
        · subst cd
          have := (nI_ltI (by omega) (by omega)).mp w
          omega
        · exact hno d' (by omega) h
      · rw [ex, nI_1]
        refine ih (d + 1) (by omega) (fun d' hd' h => ?_)
        by_cases cd : d' = d
        · subst cd
          have := (nI_leI (by omega) (by omega)).mp w2
          omega
        · exact hno d' (by omega) h
      · have b1 : (q + 1) ^ d ≤ u := by
          rcases Nat.lt_or_ge u ((q + 1) ^ d) with y | y
          · exact absurd (nI_lt y (by omega)) w
          · exact y
        have b2 : u < 2 * (q + 1) ^ d := by
          rcases Nat.lt_or_ge u (2 * (q + 1) ^ d) with y | y
          · exact y
          · exact absurd (nI_le y (by omega)) w2
        refine k0 (fun hm => ?_)
        have := ((cls_rng hq b1 b2 (by omega)).mp hm).1
        have := (nI_leI (by omega) (by omega)).mp w3
        omega
      · have b1 : (q + 1) ^ d ≤ u := by
          rcases Nat.lt_or_ge u ((q + 1) ^ d) with y | y
          · exact absurd (nI_lt y (by omega)) w
          · exact y
        have b2 : u < 2 * (q + 1) ^ d := by
          rcases Nat.lt_or_ge u (2 * (q + 1) ^ d) with y | y
          · exact y
          · exact absurd (nI_le y (by omega)) w2
        have b3 : v < (q + 1) ^ d := by
          rcases Nat.lt_or_ge v ((q + 1) ^ d) with y | y
          · exact y
          · exact absurd (nI_le y (by omega)) w3
        refine s_sqrS hq hp (by omega) (by omega) ?_
        rw [h2']
        have x1 : (q + 1) ^ 3 ≤ (q + 1) ^ 7 := Nat.pow_le_pow_right (by omega) (by omega)
        have x2 : (q + 1) ^ 3 = (q + 1) ^ 2 * (q + 1) := Nat.pow_succ _ _
        have x3 : (q + 1) ^ 2 * 2 ≤ (q + 1) ^ 2 * (q + 1) := Nat.mul_le_mul_left _ (by omega)
        have key : ∀ post' : Int32 → fcS → Prop, post' (Ni q (prem P (pn q u))) t → q_X3_rest t (Ni q P) (nI u) post' := fun post' h => by
          rw [Ni_pn hq h7 (by omega)]
          exact s_rest hq hp h7 hP (pn_dl (by omega)) h
        have hgs := gd_S (P := P) (d := d) hq ⟨7, hP⟩ (by omega) b1 b2 b3
        obtain ⟨m1, m2⟩ := pn_mon hq b1 b2
        have hrd : dl (prem P (pn q u)) 2 := dl_mono (pqr_is hq hP m1 (by rw [m2]; exact one_ne0 hq)).2.2.1 (by omega)
        refine key _ ⟨fun y => k0 (fun hm => y ?_), fun y => k1 ((cls_rng hq b1 b2 (by omega)).mpr ⟨b3, hgs.mpr ?_⟩)⟩
        · rw [hgs.mp ((cls_rng hq b1 b2 (by omega)).mp hm).2]
        · exact (Ni_inj hq (pw7 hq (by omega)) (sqS_dl q u v) hrd y).symm
  exact ⟨_, lp (g + 1) 0 (by omega) (fun d' hd' => by omega)⟩
theorem m_goesIn {t : fcS} {q C c d u v : Nat} {cv : Nat → Nat × Nat × Nat} (hq : isP q) (hC : C ≤ 8) (hB : RB t q) (hR : RC t q C cv) (hc : c < C) (hV : cvV q (cv c)) (hd : d ≤ 2) (h1 : (q + 1) ^ d ≤ u) (h2 : u < 2 * (q + 1) ^ d) (hv : v < (q + 1) ^ d) {post : Int32 → fcS → Prop} (k1 : gd q (cvP q (cv c)) u v → ∀ t2, eqW t t2 → post 1 t2) (k0 : ¬ gd q (cvP q (cv c)) u v → ∀ t2, eqW t t2 → post 0 t2) : q_X5_goesIn t (nI c) (nI u) (nI v) post := by
  have hl := isP_lo hq
  obtain ⟨a1, a2, a3, a4⟩ := pow2_le hq hd
  obtain ⟨-, -, -, -, hP, hP7, hP0, -⟩ := cv_is hq hV
  have x1 : (q + 1) ^ 3 ≤ (q + 1) ^ 16 := Nat.pow_le_pow_right (by omega) (by omega)
  have x2 : (q + 1) ^ 3 = (q + 1) ^ 2 * (q + 1) := Nat.pow_succ _ _
  have x3 : (q + 1) ^ 2 * 2 ≤ (q + 1) ^ 2 * (q + 1) := Nat.mul_le_mul_left _ (by omega)
  have hv2 : dl (pn q v) 2 := pn_dl (by omega)
  refine m_load (a := 20) hq hB.1 (by omega) (by omega) (by omega) (fun t1 e1 r1 => ?_)
  have w1 := eqW_L e1
  refine m_load (a := 21) hq (RB_W hB w1).1 (by omega) (by omega) (by omega) (fun t2 e2 r2 => ?_)
  have w2 := eqW_tr w1 (eqW_L e2)
  refine m_mul (r := 22) (a := 21) (b := 21) hq (RB_W hB w2).1 (by omega) (by omega) (by omega) (by omega) (by omega) r2 r2 hv2 hv2 (by omega) (fun t3 e3 r3 => ?_)
  have w3 := eqW_tr w2 (eqW_L e3)
  refine m_loadOwn (a := 23) hq hC (RC_U hR (eqU_W w3)) hc hV (by omega) (fun t4 e4 r4 => ?_)
  have w4 := eqW_tr w3 (eqW_L e4)
  have r422 := eqL_row e4 (by simp) r3
  rw [mp_m1 hq (RB_W hB w4).1]
  refine m_join (a := 24) (b := 23) (d := 22) hq (RB_W hB w4).1 (by omega) (by omega) (by omega) (by omega) (by omega) _ r4 r422 (fun t5 e5 r5 => ?_)
  rw [psub_neg] at r5
  have w5 := eqW_tr w4 (eqW_L e5)
  have r520 : rwI t5 20 (pn q u) := eqL_row e5 (by simp) (eqL_row e4 (by simp) (eqL_row e3 (by simp) (eqL_row e2 (by simp) r1)))
  refine m_div (rq := 25) (rr := 26) (a := 24) (b := 20) hq (RB_W hB w5).1 (by omega) (by omega) (by omega) (by omega) (by omega) (by omega) (by omega) (by omega) (by omega) r5 r520 (mon_ne hq (pn_mon hq h1 h2).2) (fun t6 e6 _ r26 => ?_)
  have w6 := eqW_tr w5 (eqW_L e6)
  refine m_deg hq (by omega) r26 (fun z => ⟨fun y => absurd y (by decide), fun _ => k1 z t6 w6⟩) (fun n hn hdn hn0 => ⟨fun _ => k0 (fun g => hn0 ?_) t6 w6, fun y => absurd (nI_pos' (by omega)) y⟩)
  have g : prem (psub (cvP q (cv c)) (pl_mul (pn q v) (pn q v))) (pn q u) = pz := g
  rw [g]; rfl
theorem m_isCO {q C c u v : Nat} {cv : Nat → Nat × Nat × Nat} {K : Int32} {T : Int64} {t : fcS} (hS : ST q C cv K T t) (hc : c < C) (hu : u < 2 ^ 31) (hv : v < 2 ^ 31) {post : Int32 → fcS → Prop} (k1 : (u, v) ∈ cls q (cvP q (cv c)) (cvg q (cv c)) → ∀ t2, eqW t t2 → post 1 t2) (k0 : (u, v) ∉ cls q (cvP q (cv c)) (cvg q (cv c)) → ∀ t2, eqW t t2 → post 0 t2) : q_X5_isClassOf t (nI c) (nI u) (nI v) post := by
  have hq := hS.1.1
  have hl := isP_lo hq
  have hC := hS.1.2.1
  have hV := hS.1.2.2 c hc
  obtain ⟨-, -, -, -, hP, hP7, hP0, -, -, g1', g2'⟩ := cv_is hq hV
  have hp : fgi t 53 1 = nI (q + 1) := hS.2.2.1.1
  have lp : ∀ cc d, d + cc = cvg q (cv c) + 1 → (∀ d', d' < d → ¬ ((q + 1) ^ d' ≤ u ∧ u < 2 * (q + 1) ^ d')) → q_X5_isClassOf_6 post (cc + 1) (nI c) (nI u) (nI v) (nI ((q + 1) ^ d)) (nI d) t := by
    intro cc
    induction cc with
    | zero =>
      intro d e hno
      have ed : d = cvg q (cv c) + 1 := by omega
      subst ed
      unfold q_X5_isClassOf_6
      refine m_genOf hq hC hS.2.2.2.2.1 hc hV ⟨fun _ => k0 (fun hm => ?_) t (eqW_rf t), fun z => absurd (nI_lt (by omega) (by omega)) z⟩
      obtain ⟨d', a1, a2, a3, -⟩ := cls_mem.mp hm
      exact hno d' (by omega) ⟨a2, a3⟩
    | succ cc ih =>
      intro d e hno
      obtain ⟨a1, a2, a3, a4⟩ := pow2_le (d := d) hq (by omega)
      unfold q_X5_isClassOf_6
      refine m_genOf hq hC hS.2.2.2.2.1 hc hV ⟨fun z => absurd z (nI_nlt (by omega) (by omega)), fun _ => ?_⟩
      rw [hp, show (2 : Int32) = nI 2 from rfl, pk_mul, pk_mul, ← Nat.pow_succ]
      refine ⟨fun w x3 ex x4 ex4 => ?_, fun w => ⟨fun w2 x3 ex x4 ex4 => ?_, fun w2 => ⟨fun w3 => ?_, fun w3 => ?_⟩⟩⟩
      · rw [ex, ex4, nI_1]
        refine ih (d + 1) (by omega) (fun d' hd' h => ?_)
        by_cases cd : d' = d
        · subst cd
          have := (nI_ltI (by omega) (by omega)).mp w
          omega
        · exact hno d' (by omega) h
      · rw [ex, ex4, nI_1]
        refine ih (d + 1) (by omega) (fun d' hd' h => ?_)
        by_cases cd : d' = d
        · subst cd
          have := (nI_leI (by omega) (by omega)).mp w2
          omega
        · exact hno d' (by omega) h
      · have b1 : (q + 1) ^ d ≤ u := by
          rcases Nat.lt_or_ge u ((q + 1) ^ d) with y | y
          · exact absurd (nI_lt y (by omega)) w
          · exact y
        have b2 : u < 2 * (q + 1) ^ d := by
          rcases Nat.lt_or_ge u (2 * (q + 1) ^ d) with y | y
          · exact y
          · exact absurd (nI_le y (by omega)) w2
        refine k0 (fun hm => ?_) t (eqW_rf t)
        have := ((cls_rng hq b1 b2 (by omega)).mp hm).1
        have := (nI_leI (by omega) (by omega)).mp w3
        omega
      · have b1 : (q + 1) ^ d ≤ u := by
          rcases Nat.lt_or_ge u ((q + 1) ^ d) with y | y
          · exact absurd (nI_lt y (by omega)) w
          · exact y
        have b2 : u < 2 * (q + 1) ^ d := by
          rcases Nat.lt_or_ge u (2 * (q + 1) ^ d) with y | y
          · exact y
          · exact absurd (nI_le y (by omega)) w2
        have b3 : v < (q + 1) ^ d := by
          rcases Nat.lt_or_ge v ((q + 1) ^ d) with y | y
          · exact y
          · exact absurd (nI_le y (by omega)) w3
        have hcr := cls_rng (P := cvP q (cv c)) (v := v) hq b1 b2 (show d ≤ cvg q (cv c) by omega)
        exact m_goesIn hq hC hS.2.2.1 hS.2.2.2.2.1 hc hV (by omega) b1 b2 b3 (fun g t2 e2 => ⟨fun z => absurd z i0, fun _ => k1 (hcr.mpr ⟨b3, g⟩) t2 e2⟩) (fun g t2 e2 => ⟨fun _ => k0 (fun hm => g (hcr.mp hm).2) t2 e2, fun z => absurd rfl z⟩)
  have := lp (cvg q (cv c) + 1) 0 (by omega) (fun d' hd' => by omega)
  rw [Nat.pow_zero] at this
  exact ⟨_, this⟩
theorem ok_24 : fOK_24 Inv := by
  intro t x y z ⟨q, C, cv, K, T, hS⟩
  have hq := hS.1.1
  have hC := hS.1.2.1
  have h0 := ST_0 hS
  have hI := ST_Inv h0
  refine c_list hS (fun hno => ⟨fun _ t1 e1 => ?_, fun i e => (nomatch e)⟩) (fun c hc ex ho hk => ⟨fun e => (nomatch e), fun i2 e2 => ⟨?_, ?_⟩⟩)
  · subst e1
    refine m_hasCl h0 (fun _ => ⟨fun _ => ⟨rfl, hI⟩, fun z => absurd rfl z⟩) (fun c hc e ho => ?_)
    have := hno c hc e
    omega
  · obtain rfl := Option.some.inj e2
    exact hk
  · obtain rfl := Option.some.inj e2
    subst ex
    have hV := hS.1.2.2 c hc
    obtain ⟨-, -, -, -, hP, hP7, hP0, -, -, g1', g2'⟩ := cv_is hq hV
    obtain ⟨⟨-, -, -, -, -, -, d7, d8⟩, -, -⟩ := hS.2.1.2.2 c hc
    have rc : ∀ post : Int32 → fcS → Prop, ((y < 0 → (post (-1) (fsi t 53 0 0))) ∧ (¬ y < 0 → ((0 ≤ z → (q_X5_isClassOf (fsi t 53 0 0) (nI c) y z (fun (r5 : Int32) (t4 : fcS) => (r5 = 0 → (post 0 t4)) ∧ (¬ r5 = 0 → (post 1 t4))))) ∧ (¬ 0 ≤ z → (post (-1) (fsi t 53 0 0)))))) → q_X5_isClass t (nI c) y z post := fun post h t1 e1 => by
      subst e1
      refine m_hasCl h0 (fun hno => ?_) (fun _ _ _ _ => ⟨fun z => absurd z i0, fun _ => h⟩)
      have := hno c hc rfl
      omega
    refine ⟨fun w => rc _ ⟨fun _ => ⟨rfl, hI⟩, fun z => absurd w z⟩, fun w => ⟨fun w2 => ?_, fun w2 => rc _ ⟨fun z => absurd z w, fun _ => ⟨fun z => absurd z w2, fun _ => ⟨rfl, hI⟩⟩⟩⟩⟩
    obtain ⟨u, hu, eu⟩ := nI_of w
    have w3 : ¬ z < 0 := fun k => by
      rw [Int32.lt_iff_toInt_lt, o32_0] at k
      rw [Int32.le_iff_toInt_le, o32_0] at w2
      omega
    obtain ⟨v, hv, ev⟩ := nI_of w3
    subst eu ev
    refine s_holds hq hP7 hS.2.1.1.1 d7 d8 g2' hu hv (fun hm => ⟨fun z => absurd z i0, fun _ => rc _ ⟨fun z => absurd z w, fun _ => ⟨fun _ => ?_, fun z => absurd w2 z⟩⟩⟩) (fun hm => ⟨fun _ => rc _ ⟨fun z => absurd z w, fun _ => ⟨fun _ => ?_, fun z => absurd w2 z⟩⟩, fun z => absurd rfl z⟩)
    · exact m_isCO h0 hc hu hv (fun _ t2 e2 => ⟨fun z => absurd z i0, fun _ => ⟨rfl, ST_Inv (ST_W h0 e2)⟩⟩) (fun g => absurd hm g)
    · exact m_isCO h0 hc hu hv (fun g => absurd g hm) (fun _ t2 e2 => ⟨fun _ => ⟨rfl, ST_Inv (ST_W h0 e2)⟩, fun z => absurd rfl z⟩)
theorem ok_25 : fOK_25 Inv := by
  intro t x ⟨q, C, cv, K, T, hS⟩
  refine c_list hS (fun hno => ⟨fun _ t1 e1 => ?_, fun i e => (nomatch e)⟩) (fun c hc ex ho hk => ⟨fun e => (nomatch e), fun i2 e2 => ⟨?_, ?_⟩⟩)
  · subst e1
    have h0 := ST_0 hS
    refine m_hasCl h0 (fun _ => ⟨fun z => absurd rfl z, fun _ => ⟨rfl, ST_Inv h0⟩⟩) (fun c hc e ho => ?_)
    have := hno c hc e
    omega
  · obtain rfl := Option.some.inj e2
    exact hk
  · obtain rfl := Option.some.inj e2
    subst ex
    refine s_many hS hc ho (fun t2 hS2 _ t1 e1 => ?_)
    subst e1
    have h0 := ST_0 hS2
    refine m_hasCl h0 (fun hno => ?_) (fun _ _ _ _ => ⟨fun _ => m_needCl h0 hc ho (fun t3 hS3 hL _ => ⟨hL.1.symm, ST_Inv hS3⟩), fun z => absurd z i0⟩)
    have := hno c hc rfl
    omega
/-! places in the list -/
theorem pr_mem {l : List (Nat × Nat)} {i : Nat} (h : i < l.length) : pr l i ∈ l := by
  unfold pr
  rw [List.getD_eq_getElem?_getD, List.getElem?_eq_getElem h]
  exact List.getElem_mem h
theorem pr_ex {l : List (Nat × Nat)} {x : Nat × Nat} (h : x ∈ l) : ∃ i, i < l.length ∧ pr l i = x := by
  obtain ⟨i, hi, e⟩ := List.mem_iff_getElem.mp h
  refine ⟨i, hi, ?_⟩
  unfold pr
  rw [List.getD_eq_getElem?_getD, List.getElem?_eq_getElem hi]
  exact e
theorem pr_inj {l : List (Nat × Nat)} (hn : l.Nodup) {i j : Nat} (hi : i < l.length) (hj : j < l.length) (e : pr l i = pr l j) : i = j := by
  have key : ∀ a b, a < b → b < l.length → pr l a ≠ pr l b := fun a b hab hb e => by
    unfold pr at e
    rw [List.getD_eq_getElem?_getD, List.getD_eq_getElem?_getD, List.getElem?_eq_getElem (show a < l.length by omega), List.getElem?_eq_getElem hb] at e
    exact (List.pairwise_iff_getElem.mp hn a b (by omega) hb hab) e
  rcases Nat.lt_trichotomy i j with w | w | w
  · exact absurd e (key i j w hj)
  · exact w
  · exact absurd e.symm (key j i w hi)
theorem cls_bd {q g a b : Nat} {P : PS q} (hq : isP q) (hg : g ≤ 2) (h : (a, b) ∈ cls q P g) : a < 2 * (q + 1) ^ 2 ∧ b < (q + 1) ^ 2 := by
  obtain ⟨h1, h2⟩ := pair_lt hq h
  obtain ⟨-, -, h3, -⟩ := pow2_le hq hg
  omega
theorem key_inj {p a b c d : Nat} (hb : b < p) (hd : d < p) (e : a * p + b = c * p + d) : a = c ∧ b = d := by
  have e1 : (a * p + b) / p = a := by rw [Nat.mul_comm, Nat.mul_add_div (by omega), Nat.div_eq_of_lt hb, Nat.add_zero]
  have e2 : (c * p + d) / p = c := by rw [Nat.mul_comm, Nat.mul_add_div (by omega), Nat.div_eq_of_lt hd, Nat.add_zero]
  have : a = c := by rw [← e1, e, e2]
  subst this
  exact ⟨rfl, by omega⟩
theorem key_lt {q a b : Nat} (hq : isP q) (ha : a < 2 * (q + 1) ^ 2) (hb : b < (q + 1) ^ 2) : a * (q + 1) ^ 2 + b < 60000 := by
  obtain ⟨-, -, -, h4⟩ := pow2_le (d := 0) hq (by omega)
  have : a * (q + 1) ^ 2 ≤ 337 * 169 := Nat.mul_le_mul (by omega) h4
  omega
theorem s_placeOf {t : fcS} {q k g i : Nat} {P : PS q} (hq : isP q) (hg : g ≤ 2) (hlen : (cls q P g).length ≤ 450) (hL : LI t q k (cls q P g)) (hi : i < (cls q P g).length) {post : Int32 → fcS → Prop} (h : post (nI i) t) : q_X0_placeOf t k (nI ((pr (cls q P g) i).1 * (q + 1) ^ 2 + (pr (cls q P g) i).2)) post := by
  have bd : ∀ j, j < (cls q P g).length → (pr (cls q P g) j).1 < 2 * (q + 1) ^ 2 ∧ (pr (cls q P g) j).2 < (q + 1) ^ 2 := fun j hj => cls_bd hq hg (pr_mem hj)
  have lp : ∀ c j, j + c = i → q_X0_placeOf_2 k post (c + 1) (nI ((pr (cls q P g) i).1 * (q + 1) ^ 2 + (pr (cls q P g) i).2)) (nI j) t := by
    intro c
    induction c with
    | zero =>
      intro j e
      have ej : j = i := by omega
      subst ej
      unfold q_X0_placeOf_2
      rw [hL.1]
      refine ⟨fun z => absurd z (nI_ge hi (by omega)), fun _ => s_at (by omega) (by omega) ?_⟩
      rw [hL.2 j hi]
      exact ⟨fun z => absurd rfl z, fun _ => h⟩
    | succ c ih =>
      intro j e
      unfold q_X0_placeOf_2
      rw [hL.1]
      refine ⟨fun z => absurd z (nI_ge (by omega) (by omega)), fun _ => s_at (by omega) (by omega) ?_⟩
      rw [hL.2 j (by omega)]
      refine ⟨fun _ x3 ex => ?_, fun z => ?_⟩
      · rw [ex, nI_1]
        exact ih (j + 1) (by omega)
      · exfalso
        have b1 := bd j (by omega)
        have b2 := bd i hi
        have k1 := key_lt hq b1.1 b1.2
        have k2 := key_lt hq b2.1 b2.2
        have := (nI_eq (by omega) (by omega)).mp z
        obtain ⟨x1, x2⟩ := key_inj b1.2 b2.2 this
        have := pr_inj (cls_nodup hq P) (show j < (cls q P g).length by omega) hi (Prod.ext x1 x2)
        omega
  exact ⟨_, lp i 0 (by omega)⟩
theorem m_find {t : fcS} {q g i : Nat} {P : PS q} (hq : isP q) (hg : g ≤ 2) (hlen : (cls q P g).length ≤ 450) (hL : LR t (cls q P g)) (hi : i < (cls q P g).length) {post : Int32 → fcS → Prop} (h : post (nI i) t) : q_X5_find t (nI (pr (cls q P g) i).1) (nI (pr (cls q P g) i).2) post := by
  have hq2 := (pow2_le (d := 0) hq (by omega)).2.2.2
  have bd : ∀ j, j < (cls q P g).length → (pr (cls q P g) j).1 < 2 * (q + 1) ^ 2 ∧ (pr (cls q P g) j).2 < (q + 1) ^ 2 := fun j hj => cls_bd hq hg (pr_mem hj)
  have lp : ∀ c j, j + c = i → q_X5_find_2 post (c + 1) (nI (pr (cls q P g) i).1) (nI (pr (cls q P g) i).2) (nI j) t := by
    intro c
    induction c with
    | zero =>
      intro j e
      have ej : j = i := by omega
      subst ej
      unfold q_X5_find_2
      rw [nI_clamp (by omega), (hL.2 j hi).1, (hL.2 j hi).2]
      exact ⟨vp_in_nI (by omega) (by omega), fun z => absurd rfl z, fun _ => ⟨vp_in_nI (by omega) (by omega), fun _ => h, fun z => absurd rfl z⟩⟩
    | succ c ih =>
      intro j e
      unfold q_X5_find_2
      rw [nI_clamp (by omega), (hL.2 j (by omega)).1, (hL.2 j (by omega)).2]
      refine ⟨vp_in_nI (by omega) (by omega), fun _ x1 ex => ?_, fun z1 => ⟨vp_in_nI (by omega) (by omega), fun z2 => ?_, fun _ x1 ex => ?_⟩⟩
      · rw [ex, nI_1]; exact ih (j + 1) (by omega)
      · exfalso
        have b1 := bd j (by omega)
        have b2 := bd i hi
        have x1 := (nI_eq (by omega) (by omega)).mp z1
        have x2 := (nI_eq (by omega) (by omega)).mp z2
        have := pr_inj (cls_nodup hq P) (show j < (cls q P g).length by omega) hi (Prod.ext x1 x2)
        omega
      · rw [ex, nI_1]; exact ih (j + 1) (by omega)
  exact ⟨_, lp i 0 (by omega)⟩
/-- the parts of a key -/
theorem s_uOf {t : fcS} {q k a b : Nat} (hq : isP q) (hp : rp t q) (ha : a < 2 * (q + 1) ^ 2) (hb : b < (q + 1) ^ 2) {post : Int32 → fcS → Prop} (h : post (nI a) t) : q_X0_uOf t k (nI (a * (q + 1) ^ 2 + b)) post := by
  have hl := isP_lo hq
  have hk := key_lt hq ha hb
  have hp' : fgi t 1 0 = nI (q + 1) := hp
  unfold q_X0_uOf
  rw [hp', pk_div (by omega) (by omega) (by omega), pk_div (Nat.lt_of_le_of_lt (Nat.div_le_self _ _) (by omega)) (by omega) (by omega), Nat.div_div_eq_div_mul, ← Nat.pow_two]
  refine ⟨nI_ne0 (by omega) (by omega), nI_ne0 (by omega) (by omega), ?_⟩
  rw [Nat.mul_comm, Nat.mul_add_div (Nat.pow_pos (by omega)), Nat.div_eq_of_lt hb, Nat.add_zero]
  exact h
theorem s_vOf {t : fcS} {q k a b : Nat} (hq : isP q) (hp : rp t q) (ha : a < 2 * (q + 1) ^ 2) (hb : b < (q + 1) ^ 2) {post : Int32 → fcS → Prop} (h : post (nI b) t) : q_X0_vOf t k (nI (a * (q + 1) ^ 2 + b)) post := by
  have hl := isP_lo hq
  have hk := key_lt hq ha hb
  have h4 := (pow2_le (d := 0) hq (by omega)).2.2.2
  have hp' : fgi t 1 0 = nI (q + 1) := hp
  have hpos : 0 < (q + 1) ^ 2 := Nat.pow_pos (by omega)
  unfold q_X0_vOf
  rw [hp', pk_mul, ← Nat.pow_two, rem_nI (by omega) hpos (by omega)]
  refine ⟨nI_ne0 hpos (by omega), ?_⟩
  rw [Nat.mul_comm, Nat.mul_add_mod, Nat.mod_eq_of_lt hb]
  exact h
theorem ok_26 : fOK_26 Inv := by
  intro t x y z ⟨q, C, cv, K, T, hS⟩
  have hq := hS.1.1
  have hC := hS.1.2.1
  have hq2 := (pow2_le (d := 0) hq (by omega)).2.2.2
  refine c_list hS (fun hno => ⟨fun _ t1 e1 => ?_, fun i e => (nomatch e)⟩) (fun c hc ex ho hk => ⟨fun e => (nomatch e), fun i2 e2 => ⟨?_, ?_⟩⟩)
  · subst e1
    have h0 := ST_0 hS
    refine m_hasCl h0 (fun _ => ⟨fun _ => ⟨rfl, ST_Inv h0⟩, fun z => absurd rfl z⟩) (fun c hc e ho => ?_)
    have := hno c hc e
    omega
  · obtain rfl := Option.some.inj e2
    exact hk
  · obtain rfl := Option.some.inj e2
    subst ex
    have hV := hS.1.2.2 c hc
    obtain ⟨-, -, -, -, hP, hP7, hP0, -, -, g1', g2'⟩ := cv_is hq hV
    have hlen := cls_450 hq hV ho
    have rc : ∀ t2, ST q C cv K T t2 → ∀ post : Int32 → fcS → Prop, ((y < 0 → (post (-1) (fsi t2 53 0 0))) ∧ (¬ y < 0 → (q_X5_in (fsi t2 53 0 0) ((Int32.toInt64 z)) 0 1 (fun (r5 : Int32) (t4 : fcS) => (¬ r5 = 0 → (q_X5_needClasses t4 (nI c) (fun (t6 : fcS) => (y < (fgi t6 53 17) → ((¬ z = 0 → ((vp_in y 600) ∧ (post ((fga t6 63 (Int32.toNatClampNeg y))) t6))) ∧ (z = 0 → ((vp_in y 600) ∧ (post ((fga t6 62 (Int32.toNatClampNeg y))) t6))))) ∧ (¬ y < (fgi t6 53 17) → (post ((-9)) t6))))) ∧ (r5 = 0 → (post ((-1)) t4)))))) → q_X5_classAt t2 (nI c) y z post := fun t2 h2 post h t1 e1 => by
      subst e1
      refine m_hasCl (ST_0 h2) (fun hno => ?_) (fun _ _ _ _ => ⟨fun z => absurd z i0, fun _ => h⟩)
      have := hno c hc rfl
      omega
    have hI := ST_Inv (ST_0 hS)
    refine ⟨fun w => rc t hS _ ⟨fun _ => ⟨rfl, hI⟩, fun z => absurd w z⟩, fun w => ?_⟩
    obtain ⟨i, hi31, ei⟩ := nI_of w
    subst ei
    rcases ix_cases z (m := 2) (by omega) with w2 | ⟨j, hj, rfl⟩
    · have rb : q_X5_classAt t (nI c) (nI i) z (fun r2 t2 => (-1 : Int32) = r2 ∧ Inv t2) := by
        refine rc t hS _ ⟨fun z => absurd z w, fun _ => m_in (fun _ => ⟨fun z => absurd rfl z, fun _ => ⟨rfl, hI⟩⟩) (fun c1 c2 => ?_)⟩
        rw [ti_i] at c1 c2
        rw [ti_0] at c1
        rw [ti_1] at c2
        omega
      refine ⟨fun _ => rb, fun c1 => ⟨fun c3 => ?_, fun _ => rb⟩⟩
      exfalso
      rw [Int32.lt_iff_toInt_lt, o32_0] at c1
      rw [Int32.le_iff_toInt_le, o32_1] at c3
      omega
    · refine ⟨fun z => absurd z (nI_pos (by omega)), fun _ => ⟨fun _ => ?_, fun z => absurd (show nI j ≤ nI 1 from nI_le (by omega) (by omega)) z⟩⟩
      have rd : ∀ t2, ST q C cv K T t2 → ∀ post : Int32 → fcS → Prop, (∀ t6, ST q C cv K T t6 → LR t6 (cls q (cvP q (cv c)) (cvg q (cv c))) → ((nI i < (fgi t6 53 17) → ((¬ nI j = 0 → ((vp_in (nI i) 600) ∧ (post ((fga t6 63 (Int32.toNatClampNeg (nI i)))) t6))) ∧ (nI j = 0 → ((vp_in (nI i) 600) ∧ (post ((fga t6 62 (Int32.toNatClampNeg (nI i)))) t6))))) ∧ (¬ nI i < (fgi t6 53 17) → (post ((-9)) t6)))) → q_X5_classAt t2 (nI c) (nI i) (nI j) post := fun t2 h2 post h => by
        refine rc t2 h2 _ ⟨fun z => absurd z w, fun _ => m_in (fun c1 => ?_) (fun _ _ => ⟨fun _ => m_needCl (ST_0 h2) hc ho (fun t6 h6 hL _ => h t6 h6 hL), fun z => absurd z i0⟩)⟩
        rw [ti_i, ti_0, ti_1, nI_toInt (by omega)] at c1
        omega
      refine s_many hS hc ho (fun t2 hS2 hL => ⟨fun w3 => ?_, fun w3 => rd t2 hS2 _ (fun t6 h6 hL6 => ?_)⟩)
      · have hi := (nI_ltI hi31 (by omega)).mp w3
        have bd := cls_bd hq g2' (pr_mem hi)
        refine s_at (by omega) (by omega) ?_
        rw [hL.2 i hi]
        have hp2 := hS2.2.1.1.1
        match j, hj with
        | 0, _ =>
          refine ⟨fun z => absurd rfl z, fun _ => s_uOf hq hp2 bd.1 bd.2 (rd t2 hS2 _ (fun t6 h6 hL6 => ?_))⟩
          rw [hL6.1, nI_clamp hi31, (hL6.2 i hi).1]
          exact ⟨fun _ => ⟨fun z => absurd rfl z, fun _ => ⟨vp_in_nI (by omega) (by omega), rfl, ST_Inv h6⟩⟩, fun z => absurd w3 z⟩
        | 1, _ =>
          refine ⟨fun _ => s_vOf hq hp2 bd.1 bd.2 (rd t2 hS2 _ (fun t6 h6 hL6 => ?_)), fun z => absurd z (by decide)⟩
          rw [hL6.1, nI_clamp hi31, (hL6.2 i hi).2]
          exact ⟨fun _ => ⟨fun _ => ⟨vp_in_nI (by omega) (by omega), rfl, ST_Inv h6⟩, fun z => absurd z (by decide)⟩, fun z => absurd w3 z⟩
      · rw [hL6.1]
        exact ⟨fun z => absurd z w3, fun _ => ⟨rfl, ST_Inv h6⟩⟩
