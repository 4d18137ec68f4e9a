/-! curve: both sides -/
theorem sameC_G {t t2 : fcS} {C : Nat} (h : eqG t t2 C) : sameC t t2 := fun k hk => ⟨fun j => h.1 k j (by omega), h.2.1 k (by omega), fun j => by unfold fgj; rw [h.2.2.1], by unfold fgl; rw [h.2.2.1]⟩
theorem IR_G {t t2 : fcS} {q C C2 : Nat} {cv cv2 : Nat → Nat × Nat × Nat} {K K2 : Int32} {T : Int64} (h : IR q C cv K T t) (e : eqG t t2 C) (h6 : fgi t2 53 6 = nI C2) (h11 : fgi t2 53 11 = K2) (hcv : ∀ c, c < C → cv2 c = cv c) (hCC : C ≤ C2) (hnew : ∀ c, C ≤ c → c < C2 → fga t2 56 c = nI (cv2 c).1 ∧ fga t2 57 c = nI (cv2 c).2.1 ∧ fga t2 58 c = nI (cv2 c).2.2 ∧ ∀ i, i < 16 → fga t2 59 (16 * c + i) = nI (cvP q (cv2 c) i).val) : IR q C2 cv2 K2 T t2 := by
  obtain ⟨hB, hS, hC, hL, hK⟩ := h
  have e1 : ∀ j, j ≠ 0 → j ≠ 6 → j ≠ 11 → fgi t2 53 j = fgi t 53 j := fun j a b c => e.1 53 j (by omega)
  have a54 := e.2.1 54 (by omega)
  have a55 := e.2.1 55 (by omega)
  have a61 := e.2.1 61 (by omega)
  have a62 := e.2.1 62 (by omega)
  have a63 := e.2.1 63 (by omega)
  refine ⟨?_, ?_, ?_, ?_, ?_⟩
  · unfold RB mp at *
    rw [e1 1 (by omega) (by omega) (by omega), e1 2 (by omega) (by omega) (by omega), a54, a55]; exact hB
  · unfold RS at *
    rw [e1 15 (by omega) (by omega) (by omega), a61]; exact hS
  · intro c hc
    rcases Nat.lt_or_ge c C with w | w
    · rw [hcv c w]
      obtain ⟨b1, b2, b3, b4⟩ := hC c w
      obtain ⟨r1, r2, r3⟩ := e.2.2.2.1 c w
      exact ⟨r1.trans b1, r2.trans b2, r3.trans b3, fun i hi => (e.2.2.2.2 _ (by omega)).trans (b4 i hi)⟩
    · exact hnew c w hc
  · unfold RLi at *
    rw [e1 16 (by omega) (by omega) (by omega), e1 17 (by omega) (by omega) (by omega), a62, a63]
    rcases hL with z | ⟨c, hc, hx⟩
    · exact Or.inl z
    · exact Or.inr ⟨c, by omega, by rw [hcv c hc]; exact hx⟩
  · obtain ⟨k1, k2, k3, k4⟩ := hK
    exact ⟨(e1 5 (by omega) (by omega) (by omega)).trans k1, h6, h11, by unfold fgj; rw [e.2.2.1]; exact k4⟩
theorem pn_lin {q c : Nat} (hq : isP q) (hc : c < q + 1) : pn q (q + 1 + c) = plin (Fin.ofNat (q + 1) c) := by
  have hl := isP_lo hq
  funext i
  apply Fin.ext
  rw [pn_val]
  unfold plin
  match i with
  | 0 =>
    rw [if_pos rfl, Nat.pow_zero, Nat.div_one, Nat.add_mod_left]; rfl
  | 1 =>
    rw [if_neg (by omega), if_pos rfl, Nat.pow_one, Nat.add_div_left _ (by omega), Nat.div_eq_of_lt hc]
    rfl
  | i + 2 =>
    rw [if_neg (by omega), if_neg (by omega), Nat.div_eq_of_lt]
    · rfl
    · have h1 : (q + 1) ^ 2 ≤ (q + 1) ^ (i + 2) := Nat.pow_le_pow_right (by omega) (by omega)
      have h2 : (q + 1) ^ 2 = (q + 1) * (q + 1) := Nat.pow_two _
      have h3 : (q + 1) * 2 ≤ (q + 1) * (q + 1) := Nat.mul_le_mul_left _ (by omega)
      omega
theorem m_curve {t : fcS} {q C n : Nat} {cv : Nat → Nat × Nat × Nat} {K : Int32} {T : Int64} {kd f tt : Nat} (hq : isP q) (hC : C ≤ 8) (hR : IR q C cv K T t) (h1 : kd ≤ 2) (h3 : (q + 1) ^ 3 ≤ f) (h7 : f < (q + 1) ^ 7) (ht : tt ≤ q) (ht0 : kd ≠ 2 → tt = 0) {a2 : Int32} (ha2 : kd = 2 → a2 = nI tt) (hn : hd (pgcd (pn q f) (pder (pn q f))) n) {post : Int32 → fcS → Prop}
    (p1 : n = 0 → C < 8 → ∀ t2, sameC t t2 → IR q (C + 1) (cvs cv C (kd, f, tt)) (-9) T t2 → post (nI C) t2)
    (p2 : n = 0 → C = 8 → ∀ t2, sameC t t2 → IR q C cv (-9) T t2 → post (-3) t2)
    (p3 : n ≠ 0 → ∀ t2, sameC t t2 → IR q C cv (Ni q (pgcd (pn q f) (pder (pn q f)))) T t2 → post (-2) t2) : q_X5_curve_48 post (nI kd) (nI f) a2 t := by
  have hl := isP_lo hq
  have h730 : (q + 1) ^ 7 < 2 ^ 30 := pw7 hq (by omega)
  have hf0 : 0 < f := by have : 0 < (q + 1) ^ 3 := Nat.pow_pos (by omega); omega
  have h716 : (q + 1) ^ 7 ≤ (q + 1) ^ 16 := Nat.pow_le_pow_right (by omega) (by omega)
  intro t6 e6
  have g6 : eqG t t6 C := by subst e6; exact eqG_fsi t C (by omega) _
  have mp6 : mp t6 q := by unfold mp; rw [g6.1 53 1 (by omega)]; exact hR.1.1
  have k6 : fgi t6 53 11 = -9 := by subst e6; exact gi_same _ _ _ _
  have c6 : fgi t6 53 6 = nI C := by subst e6; rw [gi_fsi, if_neg (by omega)]; exact hR.2.2.2.2.2.1
  refine m_knot hq mp6 (by omega) h7 hf0 (fun t7 n' e7 r12 hn' => ?_) (knot_ne hq h7 hf0)
  have en : n' = n := hd_uq hn' hn
  subst en
  have w7 := eqW_L e7
  have g7 : eqG t t7 C := eqG_tr g6 (eqG_W C w7)
  have c7 : fgi t7 53 6 = nI C := by rw [eqW_gi w7]; exact c6
  have k7 : fgi t7 53 11 = -9 := by rw [eqW_gi w7]; exact k6
  have mp7 : mp t7 q := by unfold mp; rw [eqW_gi w7]; exact mp6
  have d7 : fgi t7 53 5 = nI (dns q) := by rw [g7.1 53 5 (by omega)]; exact hR.2.2.2.2.1
  have hGd : dl (pgcd (pn q f) (pder (pn q f))) 16 := r12.1
  refine ⟨fun c => ?_, fun c => ?_⟩
  · have hn0 : n' = 0 := by
      rcases Nat.eq_zero_or_pos n' with w | w
      · exact w
      · rcases hd_lt hn' hGd with z | z
        · exact z
        · exact absurd c (nI_nle w (by omega))
    refine ⟨fun c8 x9 e9 => ?_, fun c8 => ?_⟩
    · rw [c7] at c8 e9
      have hC8 : C < 8 := by
        rcases Nat.lt_or_ge C 8 with w | w
        · exact w
        · exact absurd (by rw [show C = 8 by omega]; rfl) c8
      subst e9
      rw [nI_clamp (by omega)]
      refine ⟨vp_in_nI hC8 (by omega), fun t10 e10 => ⟨vp_in_nI hC8 (by omega), fun t11 e11 => ?_⟩⟩
      have go : ∀ vs0 : Int32, vs0 = nI tt → q_X5_curve_125 post (nI kd) (nI f) a2 (nI C) vs0 (nI C) t11 := fun vs0 evs => by
        subst evs
        refine ⟨vp_in_nI hC8 (by omega), fun t12 e12 => ?_⟩
        rw [nI_clamp (by omega)] at e12
        have g12 : eqG t t12 C := by
          subst e12 e11 e10
          exact eqG_tr g7 (eqG_tr (eqG_fsa t7 C (Or.inl ⟨by omega, rfl⟩) _) (eqG_tr (eqG_fsa _ C (Or.inl ⟨by omega, rfl⟩) _) (eqG_fsa _ C (Or.inl ⟨by omega, rfl⟩) _)))
        have i12 : ∀ j, fgi t12 53 j = fgi t7 53 j := fun j => by subst e12 e11 e10; rfl
        have q56 : fga t12 56 C = nI kd := by
          subst e12 e11 e10
          rw [ga_fsaN _ (by omega), ga_fsaN _ (by omega), ga_at]
        have q57 : fga t12 57 C = nI f := by
          subst e12 e11 e10
          rw [ga_fsaN _ (by omega), ga_at]
        have q58 : fga t12 58 C = nI tt := by
          subst e12
          rw [ga_at]
        have mp12 : mp t12 q := by unfold mp; rw [i12]; exact mp7
        refine m_load hq mp12 (a := 10) (by omega) (by omega) (by omega) (fun t13 e13 r13 => ?_)
        have done : ∀ (t14 : fcS) (F : PS q), eqW t12 t14 → rwI t14 10 F → (if kd = 0 then F else pscl F (Fin.ofNat (q + 1) (dns q))) = cvP q (kd, f, tt) → q_X5_curve_230 post (nI kd) (nI C) t14 := fun t14 F w14 r14 eF => by
          have i14 : ∀ j, fgi t14 53 j = fgi t7 53 j := fun j => by rw [eqW_gi w14]; exact i12 j
          refine m_scaled hq (by unfold mp; rw [i14]; exact mp7) (by rw [i14]; exact d7) r14 h1 (fun t15 w15 r15 => ?_)
          have w25 := eqW_tr w14 w15
          have i15 : ∀ j, fgi t15 53 j = fgi t7 53 j := fun j => by rw [eqW_gi w25]; exact i12 j
          rw [eF] at r15
          refine m_own hC8 r15 (by rw [i15]; exact c7) (fun t16 e16 o6 o11 o56 o57 o58 o59 => ?_)
          have g16 : eqG t t16 C := eqG_tr g12 (eqG_tr (eqG_W C w25) e16)
          refine p1 hn0 hC8 t16 (sameC_G g16) (IR_G hR g16 o6 (by rw [o11, i15]; exact k7) (fun c hc => ?_) (by omega) (fun c hc1 hc2 => ?_))
          · unfold cvs; rw [if_neg (by omega)]
          · have ec : c = C := by omega
            subst ec
            have ex : cvs cv c (kd, f, tt) c = (kd, f, tt) := by unfold cvs; rw [if_pos rfl]
            rw [ex]
            refine ⟨?_, ?_, ?_, o59⟩
            · rw [o56, w25.2.2 56 (by omega)]; exact q56
            · rw [o57, w25.2.2 57 (by omega)]; exact q57
            · rw [o58, w25.2.2 58 (by omega)]; exact q58
        have hpf : dl (pn q f) 7 := pn_dl h7
        refine ⟨fun c2 => ?_, fun c2 => ?_⟩
        · have hk2 : kd ≠ 2 := fun z => c2 (by rw [z]; rfl)
          refine done t13 (pn q f) (eqW_L e13) r13 ?_
          rw [cvP_F]
          have et : Fin.ofNat (q + 1) (kd, f, tt).2.2 = 0 := by
            show Fin.ofNat (q + 1) tt = 0
            rw [ht0 hk2]
            apply Fin.ext
            exact Nat.zero_mod _
          rw [et]
          unfold cvF
          by_cases z : kd = 0
          · rw [if_pos z, pmv_0 hpf]
          · rw [if_neg z, pmv_0 (dl_scl hpf _)]
        · have hk2 : kd = 2 := (nI_eq (b := 2) (by omega) (by omega)).mp c2
          have ea := ha2 hk2
          subst ea
          have mp13 := eqL_mp e13 mp12
          refine m_clear (q := q) (a := 11) (by omega) (fun t18 e18 r18 => ?_)
          have mp18 := eqL_mp e18 mp13
          rw [show fgi t18 53 1 = nI (q + 1) from mp18, nI_add]
          have hpt : q + 1 + tt < (q + 1) ^ 16 := by
            have a1 : (q + 1) ^ 2 ≤ (q + 1) ^ 16 := Nat.pow_le_pow_right (by omega) (by omega)
            have a2 : (q + 1) ^ 2 = (q + 1) * (q + 1) := Nat.pow_two _
            have a3 : (q + 1) * 2 ≤ (q + 1) * (q + 1) := Nat.mul_le_mul_left _ (by omega)
            omega
          refine m_load hq mp18 (a := 12) (by omega) (by omega) hpt (fun t19 e19 r19 => ?_)
          rw [pn_lin hq (by omega)] at r19
          have r10 : rwI t19 10 (pn q f) := eqL_row e19 (by simp) (eqL_row e18 (by simp) r13)
          have r11 : rwI t19 11 (pmv (pn q f) (Fin.ofNat (q + 1) tt) 0 6) := eqL_row e19 (by simp) r18
          have w19 : eqW t12 t19 := eqW_tr (eqW_L e13) (eqW_tr (eqW_L e18) (eqW_L e19))
          have := m_moved (C := C) (v1 := nI kd) (post := post) hq (eqL_mp e19 mp18) hpf (Fin.ofNat (q + 1) tt) r10 r19 (fun t20 w20 r20 => done t20 _ (eqW_tr w19 w20) r20 (by
            rw [if_neg (by omega), cvP_F]
            unfold cvF
            rw [if_neg (show ¬ (kd, f, tt).1 = 0 by show ¬ kd = 0; omega)]
            exact (pmv_scl _ _ _ _ _).symm)) 7 0 t19 (by omega) (eqL_rf _ _) r11
          rw [pk_m1] at this
          exact ⟨_, this⟩
      refine ⟨fun c2 => go _ ?_, fun c2 => go _ (ha2 ((nI_eq (b := 2) (by omega) (by omega)).mp c2))⟩
      have hk2 : kd ≠ 2 := fun z => c2 (by rw [z]; rfl)
      rw [ht0 hk2]; rfl
    · rw [c7] at c8
      have hC8 : C = 8 := (nI_eq (b := 8) (by omega) (by omega)).mp c8
      exact p2 hn0 hC8 t7 (sameC_G g7) (IR_G hR g7 c7 k7 (fun _ _ => rfl) (Nat.le_refl _) (fun c a b => by omega))
  · have hn0 : n' ≠ 0 := fun z => c (by rw [z]; decide)
    refine m_num hq mp7 (a := 12) (by omega) h730 r12 ?_ (fun t27 e27 => ?_)
    · have hd7 : n' < 7 ∨ 7 ≤ n' := by omega
      -- its degree is at most f's
      obtain ⟨⟨s, is, es⟩, -⟩ := gcd_is hq ⟨7, pn_dl h7⟩ (dl_mono (der_dl (pn_dl h7)) (by omega)) (Or.inl (pn_ne0 h7 hf0))
      rcases hd7 with w | w
      · exact dl_mono hn'.1 (by omega)
      · exfalso
        obtain ⟨m, hm⟩ := is
        have hs0 : s ≠ pz := fun z => by
          rw [z, pm_z] at es
          exact pn_ne0 h7 hf0 es
        obtain ⟨ds, s1, s2⟩ := hd_top hm hs0
        have htop := mul_top s1 hn'.1
        rw [← es, pn_dl h7 (ds + n') (by omega)] at htop
        rcases fin_dom hq htop.symm with z | z
        · exact s2 z
        · rcases hn'.2 with y | y
          · omega
          · exact y z
    · have g27 : eqG t t27 C := by subst e27; exact eqG_tr g7 (eqG_fsi t7 C (by omega) _)
      refine p3 hn0 t27 (sameC_G g27) (IR_G hR g27 ?_ ?_ (fun _ _ => rfl) (Nat.le_refl _) (fun c a b => by omega))
      · subst e27; rw [gi_fsi, if_neg (by omega)]; exact c7
      · subst e27; exact gi_same _ _ _ _
