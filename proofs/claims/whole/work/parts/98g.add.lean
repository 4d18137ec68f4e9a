/-! add: both -/
theorem m_addEnd {t : fcS} {q C c d g a1 b1 i1 dU : Nat} {cv : Nat → Nat × Nat × Nat} {U V m : PS q} (hq : isP q) (hC : C ≤ 8) (hB : RB t q) (hR : RC t q C cv) (hc : c < C) (hV' : cvV q (cv c)) (hgg : g = cvg q (cv c)) (hlen : (cls q (cvP q (cv c)) g).length ≤ 450) (hL : LR t (cls q (cvP q (cv c)) g)) (hP : dl (cvP q (cv c)) (d + 1)) (hP0 : cvP q (cv c) d ≠ 0) (hd2 : d = 2 * g + 1) (hg1 : 1 ≤ g) (hg : g ≤ 2) (hU : dl U (dU + 1)) (U1 : U dU = 1) (hV : dl V dU) (im : isPol m) (hm : psub (cvP q (cv c)) (pl_mul V V) = pl_mul U m) (hdU : dU ≤ 2 * g) (hi1 : i1 < (cls q (cvP q (cv c)) g).length) (e1 : pr (cls q (cvP q (cv c)) g) i1 = (a1, b1)) (ha : (if dU ≤ g then U else rdU (cvP q (cv c)) U V) = pn q a1) (hb : (if dU ≤ g then V else rdV (cvP q (cv c)) U V) = pn q b1) (r10 : rwI t 10 U) (r11 : rwI t 11 V) (r24 : rwI t 24 (cvP q (cv c))) {post : Int32 → fcS → Prop} (hh : ∀ t2, eqW t t2 → post (nI i1) t2) : ∃ n0, q_X5_addOf_263 post n0 (nI c) t := by
  have hl := isP_lo hq
  have o1 := one_ne0 hq
  have bd := cls_bd hq hg (e1 ▸ pr_mem hi1 : (a1, b1) ∈ cls q (cvP q (cv c)) g)
  have h3 : (q + 1) ^ 3 < 2 ^ 30 := pw7 hq (by omega)
  have x2 : (q + 1) ^ 3 = (q + 1) ^ 2 * (q + 1) := Nat.pow_succ _ _
  have x3 : (q + 1) ^ 2 * 2 ≤ (q + 1) ^ 2 * (q + 1) := Nat.mul_le_mul_left _ (by omega)
  have fin : ∀ (t2 : fcS) (A B : PS q), eqW t t2 → rwI t2 10 A → rwI t2 11 B → A = pn q a1 → B = pn q b1 → q_X5_number t2 10 (fun (r30 : Int32) (t29 : fcS) => q_X5_number t29 11 (fun (r32 : Int32) (t31 : fcS) => q_X5_find t31 r30 r32 (fun (r34 : Int32) (t33 : fcS) => post r34 t33))) := fun t2 A B w2 rA rB eA eB => by
    have hp2 := (RB_W hB w2).1
    subst eA eB
    refine m_num (a := 10) hq hp2 (by omega) h3 rA (pn_dl (by omega)) ?_
    refine m_num (a := 11) hq hp2 (by omega) h3 rB (pn_dl (by omega)) ?_
    rw [← Ni_pn hq h3 (by omega), ← Ni_pn hq h3 (by omega)]
    have hfd := m_find (post := fun (r34 : Int32) (t33 : fcS) => post r34 t33) hq hg hlen (LR_W hL w2) hi1
    rw [e1] at hfd
    exact hfd (hh t2 w2)
  have gen : ∀ (t2 : fcS), eqW t t2 → ∀ post' : Int32 → fcS → Prop, post' (nI g) t2 → q_X5_genusOf t2 (nI c) post' := fun t2 w2 post' h => m_genOf hq hC (RC_U hR (eqU_W w2)) hc hV' (by rw [← hgg]; exact h)
  have U0 : U ≠ pz := mon_ne hq U1
  refine ⟨2, ?_⟩
  unfold q_X5_addOf_263
  refine m_deg (a := 10) hq (by omega) r10 (fun z => absurd z U0) (fun n hn hdn hn0 => ?_)
  have en : n = dU := hd_uq ⟨hdn, Or.inr hn0⟩ ⟨hU, Or.inr (by rw [U1]; exact o1)⟩
  subst en
  refine gen t (eqW_rf t) _ ?_
  by_cases c1 : n ≤ g
  · rw [if_pos c1] at ha hb
    exact ⟨fun _ => fin t U V (eqW_rf t) r10 r11 ha hb, fun z => absurd (nI_le c1 (by omega)) z⟩
  · rw [if_neg c1] at ha hb
    obtain ⟨hCl, q1, q0, -⟩ := sm_2 hq hP hP0 hd2 hg1 hg hU U1 hV im hm (by omega) hdU
    refine ⟨fun z => absurd z (nI_ge (by omega) (by omega)), fun _ => ?_⟩
    have w0 := eqW_rf t
    refine m_mul (r := 12) (a := 11) (b := 11) hq (RB_W hB w0).1 (by omega) (by omega) (by omega) (by omega) (by omega) r11 r11 (dl_mono hV (show n ≤ 4 by omega)) (dl_mono hV (show n ≤ 4 by omega)) (by omega) (fun t1 e1' x12 => ?_)
    have w1 := eqW_tr w0 (eqW_L e1')
    have y10 := eqL_row e1' (by simp) r10
    have y11 := eqL_row e1' (by simp) r11
    have y24 := eqL_row e1' (by simp) r24
    rw [mp_m1 hq (RB_W hB w1).1]
    refine m_join (a := 14) (b := 24) (d := 12) hq (RB_W hB w1).1 (by omega) (by omega) (by omega) (by omega) (by omega) _ y24 x12 (fun t2 e2 x14 => ?_)
    rw [psub_neg] at x14
    have w2 := eqW_tr w1 (eqW_L e2)
    have y10 := eqL_row e2 (by simp) y10
    have y11 := eqL_row e2 (by simp) y11
    refine m_div (rq := 15) (rr := 16) (a := 14) (b := 10) hq (RB_W hB w2).1 (by omega) (by omega) (by omega) (by omega) (by omega) (by omega) (by omega) (by omega) (by omega) x14 y10 U0 (fun t3 e3 x15 _ => ?_)
    have w3 := eqW_tr w2 (eqW_L e3)
    have y11 := eqL_row e3 (by simp) y11
    refine m_copy (a := 10) (b := 15) (by omega) (by omega) (by omega) x15 (fun t4 e4 z10 => ?_)
    have w4 := eqW_tr w3 (eqW_L e4)
    have y11 := eqL_row e4 (by simp) y11
    refine m_deg (a := 10) hq (by omega) z10 (fun z => absurd z q0) (fun k hk hdk hk0 => ?_)
    have h160 := z10.2 k hk
    rw [show 16 * 10 + k = 160 + k by omega] at h160
    rw [show (160 : Int32) + nI k = nI (160 + k) from nI_add 160 k, nI_clamp (by omega), h160]
    refine ⟨vp_in_nI (by omega) (by omega), m_inv hq (RB_W hB w4).1 hk0 ?_⟩
    refine m_scl (a := 10) hq (RB_W hB w4).1 (by omega) _ z10 (fun t5 e5 v10 => ?_)
    have w5 := eqW_tr w4 (eqW_L e5)
    have y11 := eqL_row e5 (by simp) y11
    have eU : pscl (pquo (psub (cvP q (cv c)) (pl_mul V V)) U) (fiv q (pquo (psub (cvP q (cv c)) (pl_mul V V)) U k)) = rdU (cvP q (cv c)) U V := by
      unfold rdU pmon
      rw [ptop_at ⟨hdk, Or.inr hk0⟩]
    rw [eU] at v10
    refine m_clear (q := q) (a := 12) (by omega) (fun t6 e6 z12 => ?_)
    have w6 := eqW_tr w5 (eqW_L e6)
    have y11 := eqL_row e6 (by simp) y11
    have v10 := eqL_row e6 (by simp) v10
    rw [mp_m1 hq (RB_W hB w6).1]
    refine m_join (a := 14) (b := 12) (d := 11) hq (RB_W hB w6).1 (by omega) (by omega) (by omega) (by omega) (by omega) _ z12 y11 (fun t7 e7 z14 => ?_)
    rw [psub_neg] at z14
    have w7 := eqW_tr w6 (eqW_L e7)
    have v10 := eqL_row e7 (by simp) v10
    obtain ⟨dm, m1, m2, m3, m4, -⟩ := hCl
    simp only at m2 m3 m4
    have R0 : rdU (cvP q (cv c)) U V ≠ pz := mon_ne hq m3
    refine m_div (rq := 15) (rr := 11) (a := 14) (b := 10) hq (RB_W hB w7).1 (by omega) (by omega) (by omega) (by omega) (by omega) (by omega) (by omega) (by omega) (by omega) z14 v10 R0 (fun t8 e8 _ v11 => ?_)
    have w8 := eqW_tr w7 (eqW_L e8)
    have v10 := eqL_row e8 (by simp) v10
    unfold q_X5_addOf_263
    refine m_deg (a := 10) hq (by omega) v10 (fun z => absurd z R0) (fun n' hn' hdn' hn0' => ?_)
    have en : n' = dm := hd_uq ⟨hdn', Or.inr hn0'⟩ ⟨m2, Or.inr (by rw [m3]; exact o1)⟩
    subst en
    refine gen t8 w8 _ ⟨fun _ => fin t8 _ _ w8 v10 v11 ha hb, fun z => absurd (nI_le m1 (by omega)) z⟩
theorem m_addOf {q C c i k a b w z i1 a1 b1 : Nat} {cv : Nat → Nat × Nat × Nat} {K : Int32} {T : Int64} {t : fcS} (hS : ST q C cv K T t) (hc : c < C) (ho : cvd q (cv c) % 2 = 1) (hL : LR t (cls q (cvP q (cv c)) (cvg q (cv c)))) (hi : i < (cls q (cvP q (cv c)) (cvg q (cv c))).length) (ei : pr (cls q (cvP q (cv c)) (cvg q (cv c))) i = (a, b)) (hk : k < (cls q (cvP q (cv c)) (cvg q (cv c))).length) (ek : pr (cls q (cvP q (cv c)) (cvg q (cv c))) k = (w, z)) (hi1 : i1 < (cls q (cvP q (cv c)) (cvg q (cv c))).length) (e1 : pr (cls q (cvP q (cv c)) (cvg q (cv c))) i1 = (a1, b1)) (es : smC (cvP q (cv c)) (cvg q (cv c)) (pn q a, pn q b) (pn q w, pn q z) = (pn q a1, pn q b1)) {post : Int32 → fcS → Prop} (hh : ∀ t2, eqW t t2 → post (nI i1) t2) : q_X5_addOf t (nI c) (nI i) (nI k) post := by
  have hq := hS.1.1
  have hl := isP_lo hq
  have hC := hS.1.2.1
  have hV := hS.1.2.2 c hc
  have hlen := cls_450 hq hV ho
  obtain ⟨-, hP, hP0, hd2, hg1, hg, hbz⟩ := cv_O hq hV ho
  have hip : isPol (cvP q (cv c)) := ⟨_, hP⟩
  have hm : (a, b) ∈ cls q (cvP q (cv c)) (cvg q (cv c)) := ei ▸ pr_mem hi
  have hm2 : (w, z) ∈ cls q (cvP q (cv c)) (cvg q (cv c)) := ek ▸ pr_mem hk
  have bd := cls_bd hq hg hm
  have bd2 := cls_bd hq hg hm2
  have hC1 := cls_C hq hip hm
  have hC2 := cls_C hq hip hm2
  obtain ⟨dU, s1, s2, s3, s4, ⟨m, im, s5⟩, -⟩ := sm_1 hq hP hP0 ho hbz hg hC1 hC2
  have et : ptop (smU (pn q a) (pn q b) (pn q w) (pn q z)) = dU := ptop_at ⟨s2, Or.inr (by rw [s3]; exact one_ne0 hq)⟩
  have x2 : (q + 1) ^ 3 = (q + 1) ^ 2 * (q + 1) := Nat.pow_succ _ _
  have x3 : (q + 1) ^ 2 * 2 ≤ (q + 1) ^ 2 * (q + 1) := Nat.mul_le_mul_left _ (by omega)
  have u0 : pn q a ≠ pz := by
    obtain ⟨du, -, -, k3, -⟩ := hC1
    exact mon_ne hq k3
  have f1 := (hL.2 i hi).1
  have f2 := (hL.2 i hi).2
  have f3 := (hL.2 k hk).1
  have f4 := (hL.2 k hk).2
  rw [ei] at f1 f2
  rw [ek] at f3 f4
  refine m_addIn hq hC hS.2.2.1 hS.2.2.2.2.1 hc hV (dl_mono hP (by omega)) (by omega) (by omega) f1 f2 f3 f4 (show a < (q + 1) ^ 3 by omega) bd.2 (show w < (q + 1) ^ 3 by omega) bd2.2 u0 (mon_ne hq s3) (fun t2 w2 r10 r11 r24 => ?_)
  unfold smC at es
  rw [et] at es
  refine m_addEnd (d := cvd q (cv c)) hq hC (RB_W hS.2.2.1 w2) (RC_U hS.2.2.2.2.1 (eqU_W w2)) hc hV rfl hlen (LR_W hL w2) hP hP0 hd2 hg1 hg s2 s3 s4 im s5 s1 hi1 e1 ?_ ?_ r10 r11 r24 (fun t3 w3 => hh t3 (eqW_tr w2 w3))
  · by_cases c1 : dU ≤ cvg q (cv c)
    · rw [if_pos c1] at es ⊢
      exact congrArg Prod.fst es
    · rw [if_neg c1] at es ⊢
      exact congrArg Prod.fst es
  · by_cases c1 : dU ≤ cvg q (cv c)
    · rw [if_pos c1] at es ⊢
      exact congrArg Prod.snd es
    · rw [if_neg c1] at es ⊢
      exact congrArg Prod.snd es
theorem ok_27 : fOK_27 Inv := by
  intro t x y y2 ⟨q, C, cv, K, T, hS⟩
  have hq := hS.1.1
  have hl := isP_lo hq
  have hC := hS.1.2.1
  have hq2 := (pow2_le (d := 0) hq (by omega)).2.2.2
  refine c_list hS (fun hno => ⟨fun _ t1 e1 => ?_, fun i e => (nomatch e)⟩) (fun c hc ex ho hk => ⟨fun e => (nomatch e), fun i2 e2 => ⟨?_, ?_⟩⟩)
  · subst e1
    have h0 := ST_0 hS
    exact m_isTh0 h0 hno ⟨fun _ => ⟨rfl, ST_Inv h0⟩, fun z => absurd rfl z⟩
  · obtain rfl := Option.some.inj e2
    exact hk
  · obtain rfl := Option.some.inj e2
    subst ex
    have hV := hS.1.2.2 c hc
    have hO := cv_O hq hV ho
    obtain ⟨-, -, -, -, hP, hP7, hP0, -, -, g1', g2'⟩ := cv_is hq hV
    have hlen := cls_450 hq hV ho
    refine s_reach hS hc ho (fun hno t2 hS2 => ⟨fun _ t1 e1 => ?_, fun z => absurd rfl z⟩) (fun i hi ey t2 hS2 _ => ⟨fun z => absurd z i0, fun _ => s_reach hS2 hc ho (fun hno t3 hS3 => ⟨fun z => absurd rfl z, fun _ t1 e1 => ?_⟩) (fun k hk ey2 t3 hS3 hL => ⟨fun _ => ?_, fun z => absurd z i0⟩)⟩)
    · subst e1
      exact m_isTh (ST_0 hS2) hc ho (fun _ t3 hS3 => ⟨fun _ => ⟨rfl, ST_Inv hS3⟩, fun z => absurd rfl z⟩) (fun i hi e => absurd e (hno i hi))
    · subst e1 ey
      exact m_isTh (ST_0 hS3) hc ho (fun hno => absurd rfl (hno i hi)) (fun _ _ _ t4 hS4 _ => ⟨fun z => absurd z i0, fun _ => m_isTh hS4 hc ho (fun _ t5 hS5 => ⟨fun _ => ⟨rfl, ST_Inv hS5⟩, fun z => absurd rfl z⟩) (fun k hk e => absurd e (hno k hk))⟩)
    · subst ey ey2
      obtain ⟨⟨a, b⟩, ei⟩ : ∃ x, pr (cls q (cvP q (cv c)) (cvg q (cv c))) i = x := ⟨_, rfl⟩
      obtain ⟨⟨w, z⟩, ek⟩ : ∃ x, pr (cls q (cvP q (cv c)) (cvg q (cv c))) k = x := ⟨_, rfl⟩
      have hm : (a, b) ∈ cls q (cvP q (cv c)) (cvg q (cv c)) := ei ▸ pr_mem hi
      have hm2 : (w, z) ∈ cls q (cvP q (cv c)) (cvg q (cv c)) := ek ▸ pr_mem hk
      obtain ⟨a1, b1, i1, hi1, e1, es⟩ := cls_sum hO hm hm2
      have hm1 : (a1, b1) ∈ cls q (cvP q (cv c)) (cvg q (cv c)) := e1 ▸ pr_mem hi1
      obtain ⟨⟨-, -, -, -, -, -, d7, d8⟩, -, -⟩ := hS3.2.1.2.2 c hc
      refine s_at (by omega) (by omega) ?_
      refine s_at (by omega) (by omega) ?_
      rw [hL.2 i hi, hL.2 k hk, ei, ek]
      refine s_sumOf hO hS3.2.1.1.1 d7 d8 hm hm2 hm1 es ?_
      have hpl := s_placeOf (post := fun (r : Int32) (t1 : fcS) => q_X5_add t1 (nI c) (nI i) (nI k) (fun (r2 : Int32) (t2 : fcS) => r = r2 ∧ Inv t2)) hq g2' hlen hL hi1
      rw [e1] at hpl
      refine hpl (fun t4 e4 => ?_)
      subst e4
      refine m_isTh (ST_0 hS3) hc ho (fun hno => absurd rfl (hno i hi)) (fun _ _ _ t5 hS5 _ => ⟨fun z => absurd z i0, fun _ => m_isTh hS5 hc ho (fun hno => absurd rfl (hno k hk)) (fun _ _ _ t6 hS6 hL6 => ⟨fun z => absurd z i0, fun _ => ?_⟩)⟩)
      exact m_addOf hS6 hc ho hL6 hi ei hk ek hi1 e1 es (fun t7 w7 => ⟨rfl, ST_Inv (ST_W hS6 w7)⟩)
