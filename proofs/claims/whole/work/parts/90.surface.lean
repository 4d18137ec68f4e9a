/-! surface -/
noncomputable def nsq (q n : Nat) (P : PS q) (v : Int32) : Nat → Int32
  | 0 => 0
  | m + 1 => nsq q n P v m + cit (sg q n (vl q n P m) = v) 1 0
theorem sg_3 (q n a : Nat) : sg q n a = 0 ∨ sg q n a = 1 ∨ sg q n a = -1 := by
  unfold sg
  by_cases c : a = 0
  · rw [if_pos c]; exact Or.inl rfl
  · rw [if_neg c]
    by_cases c2 : ∃ b, b < (q + 1) ^ n ∧ ml q n b b = a
    · rw [cit_pos c2]; exact Or.inr (Or.inl rfl)
    · rw [cit_neg c2]; exact Or.inr (Or.inr rfl)
theorem ssm_nsq (q n : Nat) (P : PS q) : ∀ m, ssm q n P m = nsq q n P 1 m - nsq q n P (-1) m
  | 0 => by show (0 : Int32) = 0 - 0; decide
  | m + 1 => by
    show ssm q n P m + sg q n (vl q n P m) = (nsq q n P 1 m + cit (sg q n (vl q n P m) = 1) 1 0) - (nsq q n P (-1) m + cit (sg q n (vl q n P m) = -1) 1 0)
    rw [ssm_nsq q n P m]
    generalize nsq q n P 1 m = a
    generalize nsq q n P (-1) m = b
    rcases sg_3 q n (vl q n P m) with e | e | e
    · rw [e, cit_neg (by decide), cit_neg (by decide)]
      grind
    · rw [e, cit_pos rfl, cit_neg (by decide)]
      grind
    · rw [e, cit_neg (by decide), cit_pos rfl]
      grind
theorem m_surf {t : fcS} {q n C c c2 : Nat} {cv : Nat → Nat × Nat × Nat} (hB : RB t q) (hR : RC t q C cv) (hf : fl q n) (hC : C ≤ 8) (hc : c < C) (hc2 : c2 < C) (hx : ∀ a, a < (q + 1) ^ n → fga t 61 a = sg q n a) {post : Int32 → fcS → Prop} (hh : ∀ t2, eqW t t2 → post (nI ((q + 1) ^ n) * nI ((q + 1) ^ n) + ssm q n (cvP q (cv c)) ((q + 1) ^ n) * ssm q n (cvP q (cv c2)) ((q + 1) ^ n)) t2) : ∀ d x (t1 : fcS), x + d = (q + 1) ^ n → eqW t t1 → q_X5_surface_59 post (d + 1) (nI c) (nI c2) (nI n) (nI ((q + 1) ^ n)) (nsq q n (cvP q (cv c)) 1 x) (nsq q n (cvP q (cv c)) (-1) x) (nsq q n (cvP q (cv c2)) 1 x) (nsq q n (cvP q (cv c2)) (-1) x) (nI x) t1 := by
  have hs := fl_sz hf
  intro d
  induction d with
  | zero =>
    intro x t1 e e1
    have ex : x = (q + 1) ^ n := by omega
    unfold q_X5_surface_59
    refine ⟨fun _ x10 e10 => ?_, fun z => absurd (nI_le (by omega) (by omega)) z⟩
    have := hh t1 e1
    rw [ssm_nsq, ssm_nsq] at this
    rw [e10, ex]
    generalize nsq q n (cvP q (cv c)) 1 ((q + 1) ^ n) = a at *
    generalize nsq q n (cvP q (cv c)) (-1) ((q + 1) ^ n) = b at *
    generalize nsq q n (cvP q (cv c2)) 1 ((q + 1) ^ n) = a' at *
    generalize nsq q n (cvP q (cv c2)) (-1) ((q + 1) ^ n) = b' at *
    generalize nI ((q + 1) ^ n) * nI ((q + 1) ^ n) = s at *
    have e2 : s - (a + b) * (a' + b') + 2 * (a * a' + b * b') = s + (a - b) * (a' - b') := by grind
    rw [e2]; exact this
  | succ d ih =>
    intro x t1 e e1
    have hB1 := RB_W hB e1
    have hR1 := RC_U hR (eqU_W e1)
    have hx4 : x < (q + 1) ^ n := by omega
    unfold q_X5_surface_59
    refine ⟨fun z => absurd z (nI_ge (by omega) (by omega)), fun _ => ?_⟩
    refine m_valOf hB1 hf (by omega) (RC_own hR1 hc) hx4 (fun t2 e2 => ?_)
    have hv1 := vl_lt hf (cvP q (cv c)) x
    have hv2 := vl_lt hf (cvP q (cv c2)) x
    refine ⟨vp_in_nI (by omega) (by omega), fun x13 e13 => ?_⟩
    rw [nI_clamp (by omega), e2.2.2 61 (by omega), e1.2.2 61 (by omega), hx _ hv1] at e13
    refine m_valOf (RB_W hB1 e2) hf (by omega) (RC_own (RC_U hR1 (eqU_W e2)) hc2) hx4 (fun t3 e3 => ?_)
    refine ⟨vp_in_nI (by omega) (by omega), fun x16 e16 => ?_⟩
    rw [nI_clamp (by omega), e3.2.2 61 (by omega), e2.2.2 61 (by omega), e1.2.2 61 (by omega), hx _ hv2] at e16
    have go := ih (x + 1) t3 (by omega) (eqW_tr e1 (eqW_tr e2 e3))
    have u1 : nsq q n (cvP q (cv c)) 1 (x + 1) = nsq q n (cvP q (cv c)) 1 x + cit (x13 = 1) 1 0 := by rw [e13]; rfl
    have u2 : nsq q n (cvP q (cv c)) (-1) (x + 1) = nsq q n (cvP q (cv c)) (-1) x + cit (x13 = -1) 1 0 := by rw [e13]; rfl
    have u3 : nsq q n (cvP q (cv c2)) 1 (x + 1) = nsq q n (cvP q (cv c2)) 1 x + cit (x16 = 1) 1 0 := by rw [e16]; rfl
    have u4 : nsq q n (cvP q (cv c2)) (-1) (x + 1) = nsq q n (cvP q (cv c2)) (-1) x + cit (x16 = -1) 1 0 := by rw [e16]; rfl
    rw [u1, u2, u3, u4, ← nI_1] at go
    refine ⟨fun z1 => ?_, fun z1 => ?_⟩ <;> intro y1 f1 <;> refine ⟨fun z2 => ?_, fun z2 => ?_⟩ <;> intro y2 f2 <;> refine ⟨fun z3 => ?_, fun z3 => ?_⟩ <;> intro y3 f3 <;> refine ⟨fun z4 => ?_, fun z4 => ?_⟩ <;> intro y4 f4 y5 f5 <;> subst f1 f2 f3 f4 f5
    all_goals first | rw [cit_neg z1] at go | rw [cit_pos z1] at go
    all_goals first | rw [cit_neg z2] at go | rw [cit_pos z2] at go
    all_goals first | rw [cit_neg z3] at go | rw [cit_pos z3] at go
    all_goals first | rw [cit_neg z4] at go | rw [cit_pos z4] at go
    all_goals exact go
theorem ok_22 : fOK_22 Inv := by
  intro t x y z ⟨q, C, cv, K, T, hS⟩
  have hq := hS.1.1
  have hC := hS.1.2.1
  have rb1 : ∀ t2, ST q C cv K T t2 → (∀ c, c < C → x ≠ nI c) → q_X5_surface t2 x y z (fun r2 t3 => (-1 : Int32) = r2 ∧ Inv t3) := fun t2 h2 hno t1 e1 => by
    subst e1
    have h0 := ST_0 h2
    exact m_isCurve (ST_6 h0) hC (fun _ => ⟨fun _ => ⟨rfl, ST_Inv h0⟩, fun z => absurd rfl z⟩) (fun c hc e => absurd e (hno c hc))
  have rb2 : ∀ t2, ST q C cv K T t2 → (∀ c, c < C → y ≠ nI c) → q_X5_surface t2 x y z (fun r2 t3 => (-1 : Int32) = r2 ∧ Inv t3) := fun t2 h2 hno t1 e1 => by
    subst e1
    have h0 := ST_0 h2
    exact m_isCurve (ST_6 h0) hC (fun _ => ⟨fun _ => ⟨rfl, ST_Inv h0⟩, fun z => absurd rfl z⟩) (fun c hc e => ⟨fun z => absurd z i0, fun _ => m_isCurve (ST_6 h0) hC (fun _ => ⟨fun _ => ⟨rfl, ST_Inv h0⟩, fun z => absurd rfl z⟩) (fun c hc e => absurd e (hno c hc))⟩)
  refine c_curve hS (fun hno => ⟨fun _ => ?_, fun i e => (nomatch e)⟩) (fun c hc ex hkc => ⟨fun e => (nomatch e), fun i2 e2 => ?_⟩)
  · refine c_curve hS (fun _ => ⟨fun _ => ?_, fun i e => (nomatch e)⟩) (fun c hc _ hkc => ⟨fun e => (nomatch e), fun i2 e2 => ?_⟩)
    · exact c_field hS (fun _ => ⟨fun _ => rb1 t hS hno, fun i e => (nomatch e)⟩) (fun n g t2 _ _ _ hS2 _ hk => ⟨fun e => (nomatch e), fun i2 e2 => ⟨Option.some.inj e2 ▸ hk, rb1 t2 hS2 hno⟩⟩)
    · obtain rfl := Option.some.inj e2
      exact ⟨hkc, c_field hS (fun _ => ⟨fun _ => rb1 t hS hno, fun i e => (nomatch e)⟩) (fun n g t2 _ _ _ hS2 _ hk => ⟨fun e => (nomatch e), fun i2 e2 => ⟨Option.some.inj e2 ▸ hk, rb1 t2 hS2 hno⟩⟩)⟩
  obtain rfl := Option.some.inj e2
  subst ex
  refine ⟨hkc, ?_⟩
  refine c_curve hS (fun hno => ⟨fun _ => ?_, fun i e => (nomatch e)⟩) (fun c2 hc2 ey hkc2 => ⟨fun e => (nomatch e), fun i3 e3 => ?_⟩)
  · exact c_field hS (fun _ => ⟨fun _ => rb2 t hS hno, fun i e => (nomatch e)⟩) (fun n g t2 _ _ _ hS2 _ hk => ⟨fun e => (nomatch e), fun i2 e2 => ⟨Option.some.inj e2 ▸ hk, rb2 t2 hS2 hno⟩⟩)
  obtain rfl := Option.some.inj e3
  subst ey
  refine ⟨hkc2, ?_⟩
  obtain ⟨-, -, -, -, hP, hP7, hP0, -⟩ := cv_is hq (hS.1.2.2 c hc)
  obtain ⟨-, -, -, -, hP', hP7', hP0', -⟩ := cv_is hq (hS.1.2.2 c2 hc2)
  have rc : ∀ t2, ST q C cv K T t2 → ∀ post : Int32 → fcS → Prop, q_X5_isField (fsi t2 53 0 0) z (fun (r7 : Int32) (t6 : fcS) => (¬ r7 = 0 → (q_X5_needSigns t6 z (fun (t8 : fcS) => (vp_in z 6) ∧ (∀ x9 : Int32, x9 = (fga t8 54 (Int32.toNatClampNeg z)) → (∃ n0, q_X5_surface_59 post n0 (nI c) (nI c2) z x9 0 0 0 0 0 t8))))) ∧ (r7 = 0 → (post ((-1)) t6))) → q_X5_surface t2 (nI c) (nI c2) z post := fun t2 h2 post h t1 e1 => by
    subst e1
    have h0 := ST_0 h2
    exact m_isCurve (ST_6 h0) hC (fun hno => absurd rfl (hno c hc)) (fun _ _ _ => ⟨fun z => absurd z i0, fun _ => m_isCurve (ST_6 h0) hC (fun hno => absurd rfl (hno c2 hc2)) (fun _ _ _ => ⟨fun z => absurd z i0, fun _ => h⟩)⟩)
  refine c_field hS (fun hno => ⟨fun _ => ?_, fun i e => (nomatch e)⟩) (fun n g t2 hf ez ef hS2 ht hk => ⟨fun e => (nomatch e), fun i2 e2 => ?_⟩)
  · have h0 := ST_0 hS
    exact rc t hS _ (m_isField h0.2.2.1 hq (fun _ => ⟨fun z => absurd rfl z, fun _ => ⟨rfl, ST_Inv h0⟩⟩) (fun n hf e => absurd e (hno n hf)))
  · obtain rfl := Option.some.inj e2
    subst ez
    have h0 := ST_0 hS2
    refine ⟨hk, ?_⟩
    rw [(hS2.2.1.2.2 c hc).1.2.2.2.2.2.1]
    refine s_ssm hf hS2.2.1.1.1 ht hP7 hP ?_
    rw [(hS2.2.1.2.2 c2 hc2).1.2.2.2.2.2.1]
    refine s_ssm hf hS2.2.1.1.1 ht hP7' hP' (fun x19 e19 => ?_)
    rw [ht.1, e19]
    refine rc t2 hS2 _ (m_isField h0.2.2.1 hq (fun hno => absurd rfl (hno n hf)) (fun _ _ _ => ⟨fun _ => m_signsx h0.2.2.1 h0.2.2.2.1 hf (fun t3 e3 s3 hx => ⟨?_, fun x9 e9 => ?_⟩), fun z => absurd z i0⟩))
    · have := (nfd_ok hq).2
      exact vp_in_nI (by have := hf.2; omega) (by omega)
    · have hS3 := ST_U h0 e3.1 s3
      have := (nfd_ok hq).2
      have := hf.2
      rw [nI_clamp (by omega), (hS3.2.2.1.2.2 n hf.2.1 hf.2.2).1] at e9
      subst e9
      exact ⟨_, m_surf hS3.2.2.1 hS3.2.2.2.2.1 hf hC hc hc2 hx (fun t4 e4 => ⟨rfl, ST_Inv (ST_W hS3 e4)⟩) ((q + 1) ^ n) 0 t3 (by omega) (eqW_rf t3)⟩
