/-! best -/
theorem pn_hdr {q f d : Nat} (h1 : (q + 1) ^ d ≤ f) (h2 : f < (q + 1) ^ (d + 1)) : dl (pn q f) (d + 1) ∧ pn q f d ≠ 0 := by
  refine ⟨pn_dl h2, fun z => ?_⟩
  have := congrArg Fin.val z
  rw [pn_val] at this
  have hp : 0 < (q + 1) ^ d := Nat.pow_pos (by omega)
  have a1 : 0 < f / (q + 1) ^ d := Nat.div_pos h1 hp
  have a2 : f / (q + 1) ^ d < q + 1 := Nat.div_lt_of_lt_mul (by rw [← Nat.pow_succ]; exact h2)
  rw [Nat.mod_eq_of_lt a2] at this
  have e0 : ((0 : Fin (q + 1)) : Nat) = 0 := rfl
  omega
theorem ad_1 {q a b : Nat} (hq : isP q) (ha : a < q + 1) (hb : b < q + 1) : ad q a b = (a + b) % (q + 1) := by
  obtain ⟨h1, h2, -⟩ := ad_lt (m := 1) hq (pw7 hq (by omega)) (by rw [Nat.pow_one]; exact ha) (by rw [Nat.pow_one]; exact hb)
  have := congrArg (fun f : PS q => (f 0).val) h2
  simp only [padd, pn_val, Nat.pow_zero, Nat.div_one, Fin.val_add] at this
  rw [Nat.pow_one] at h1
  rw [Nat.mod_eq_of_lt h1, Nat.mod_eq_of_lt ha, Nat.mod_eq_of_lt hb] at this
  exact this
def bok (q d f : Nat) : Prop := (q + 1) ^ d ≤ f ∧ f < (q + 1) ^ (d + 1) ∧ hd (pgcd (pn q f) (pder (pn q f))) 0
noncomputable def bst (q d f : Nat) (s : Int32 × Int32) : Int32 × Int32 := cit (bok q d f ∧ s.2 < cnt q 1 (pn q f) d) (nI f, cnt q 1 (pn q f) d) s
noncomputable def bfo (q d : Nat) : Nat → Nat → Int32 × Int32 → Int32 × Int32
  | 0, _, s => s
  | k + 1, f, s => bfo q d k (f + 1) (bst q d f s)
theorem bfo_s (q d k f : Nat) (s : Int32 × Int32) : bfo q d (k + 1) f s = bfo q d k (f + 1) (bst q d f s) := by rw [bfo]
theorem bfo_skip {q d : Nat} : ∀ (k f : Nat) (s : Int32 × Int32), (∀ i, f ≤ i → i < f + k → ¬ bok q d i) → bfo q d k f s = s
  | 0, _, _, _ => rfl
  | k + 1, f, s, h => by
    rw [bfo_s, bfo_skip k (f + 1) _ (fun i h1 h2 => h i (by omega) (by omega))]
    exact cit_neg (fun z => h f (Nat.le_refl _) (by omega) z.1)
theorem bfo_add {q d : Nat} : ∀ (k l f : Nat) (s : Int32 × Int32), bfo q d (k + l) f s = bfo q d l (f + k) (bfo q d k f s)
  | 0, l, f, s => by rw [Nat.zero_add, Nat.add_zero]; rfl
  | k + 1, l, f, s => by
    rw [show k + 1 + l = (k + l) + 1 by omega, bfo_s, bfo_s, bfo_add k l, show f + 1 + k = f + (k + 1) by omega]
theorem c_best {t : fcS} {q g d e : Nat} (hq : isP q) (hp : rp t q) (ht : tb t q 1 6 g) (hd3 : 3 ≤ d) (hd6 : d ≤ 6) (he : e ≤ (q + 1) ^ (d + 1)) {post : Int32 → fcS → Prop} : ∀ k f (s : Int32 × Int32), f + k = e → (q + 1) ^ d ≤ f → post (bfo q d k f s).1 t → q_X4_best_89 6 post (k + 1) (nI e) s.1 s.2 (nI f) t := by
  have hl := isP_lo hq
  have h7 : (q + 1) ^ (d + 1) ≤ (q + 1) ^ 7 := Nat.pow_le_pow_right (by omega) (by omega)
  have h30 : (q + 1) ^ 7 < 2 ^ 30 := pw7 hq (by omega)
  have hpos : 0 < (q + 1) ^ d := Nat.pow_pos (by omega)
  intro k
  induction k with
  | zero =>
    intro f s ef hf hh
    unfold q_X4_best_89
    exact ⟨fun _ => hh, fun z => absurd (nI_le (by omega) (by omega)) z⟩
  | succ k ih =>
    intro f s ef hf hh
    have hf1 : f < (q + 1) ^ (d + 1) := by omega
    obtain ⟨n, hn, hn7⟩ := knot_hd hq (f := f) (by omega) (by omega)
    have hgd := knot_dl hq (f := f) (by omega) (by omega)
    have hpd := pn_hdr hf hf1
    unfold q_X4_best_89
    rw [bfo_s] at hh
    refine ⟨fun z => absurd z (nI_ge (by omega) (by omega)), fun _ => s_knot7 hq hp (by omega) (s_degS hq hp h30 hgd hn ⟨fun z x19 e19 => ?_, fun z => ?_⟩)⟩
    · have hn0 : n ≠ 0 := fun w => z (by rw [w]; rfl)
      rw [e19, nI_1]
      refine ih (f + 1) s (by omega) (by omega) ?_
      unfold bst at hh
      rw [cit_neg (fun w => hn0 (hd_uq hn w.1.2.2))] at hh
      exact hh
    · have hn0 : n = 0 := (nI_eq (b := 0) (by omega) (by omega)).mp z
      rw [hn0] at hn
      have hP7 : dl (pn q f) 7 := dl_mono hpd.1 (by omega)
      have e1 : nI f = Ni q (pn q f) := Ni_pn hq h30 (by omega)
      have key : ∀ post' : Int32 → fcS → Prop, post' (cnt q 1 (pn q f) d) t → q_X2_pointsOf t 6 (nI f) post' := fun post' h => by
        rw [e1]; exact s_pts (fl_1 hq) hp ht hP7 ⟨hpd.1, Or.inr hpd.2⟩ h
      refine key _ ⟨fun w x22 e22 => ?_, fun w x23 e23 => ?_⟩
      · rw [e22, nI_1]
        refine ih (f + 1) s (by omega) (by omega) ?_
        unfold bst at hh
        rw [cit_neg (fun v => absurd v.2 (Int32.not_lt.mpr w))] at hh
        exact hh
      · rw [e23, nI_1]
        unfold bst at hh
        rw [cit_pos ⟨⟨hf, hf1, hn⟩, Int32.not_le.mp w⟩] at hh
        exact ih (f + 1) (nI f, cnt q 1 (pn q f) d) (by omega) (by omega) hh
theorem m_b150 {t : fcS} {q x : Nat} {P : PS q} (hq : isP q) (hp : mp t q) (hr : rwI t 10 P) (hx61 : ∀ a, a < (q + 1) ^ 1 → fga t 61 a = sg q 1 a) (hx : x < q + 1) {post : Int32 → fcS → Prop} {k55 : Int32 → Int32 → Int32 → Int32 → Int32 → Int32 → fcS → Prop} {k135 : Int32 → Int32 → Int32 → Int32 → Int32 → Int32 → Int32 → Int32 → fcS → Prop} {v1 v2 v3 v4 v5 v6 v7 : Int32} {v : Nat} (hh : k135 v1 v2 v3 v4 v5 v6 (v7 + (1 + sg q 1 v)) (nI (x + 1)) t) : ∀ k a, k ≤ 16 → a < q + 1 → hv q 1 P x a k = v → q_X5_best_150 post k55 k135 (k + 1) v1 v2 v3 v4 v5 v6 v7 (nI x) (nI a) (nI k + (-1)) t := by
  have hl := isP_lo hq
  have hp' : fgi t 53 1 = nI (q + 1) := hp
  intro k
  induction k with
  | zero =>
    intro a _ ha e
    have ea : a = v := e
    subst ea
    unfold q_X5_best_150
    refine ⟨fun _ => ⟨vp_in_nI (by omega) (by omega), fun x18 e18 x19 e19 => ?_⟩, fun z => absurd (by decide) z⟩
    rw [nI_clamp (by omega), hx61 a (by rw [Nat.pow_one]; exact ha)] at e18
    rw [e18, e19, nI_1]
    exact hh
  | succ k ih =>
    intro a hk ha e
    unfold q_X5_best_150
    have hPk := (P k).isLt
    have hm : a * x < 13 * 13 := Nat.lt_of_le_of_lt (Nat.mul_le_mul (show a ≤ 12 by omega) (show x ≤ 12 by omega)) (by omega)
    rw [pk_m1, hp', show (160 : Int32) + nI k = nI (160 + k) from nI_add 160 k, nI_clamp (n := 160 + k) (by omega)]
    have h60 := hr.2 k (by omega)
    rw [show 16 * 10 + k = 160 + k by omega] at h60
    rw [h60, pk_mul, nI_add, rem_nI (by omega) (by omega) (by omega)]
    refine ⟨fun z => absurd z (nI_pos (by omega)), fun _ => ⟨vp_in_nI (by omega) (by omega), nI_ne0 (by omega) (by omega), fun x20 e20 x21 e21 => ?_⟩⟩
    rw [e20, e21]
    refine ih _ (by omega) (Nat.mod_lt _ (by omega)) ?_
    rw [← e, hv_s, ml_1 (fl_1 hq) ha hx, ad_1 hq (Nat.mod_lt _ (by omega)) hPk, Nat.mod_add_mod]
theorem m_b135 {t : fcS} {q d f : Nat} {P : PS q} (hq : isP q) (hp : mp t q) (hr : rwI t 10 P) (hP : dl P (d + 1)) (hd6 : d ≤ 6) (hx61 : ∀ a, a < (q + 1) ^ 1 → fga t 61 a = sg q 1 a) {post : Int32 → fcS → Prop} {k55 : Int32 → Int32 → Int32 → Int32 → Int32 → Int32 → fcS → Prop} {v2 v3 : Int32} {s : Int32 × Int32} (h0 : cnt q 1 P d ≤ s.2 → k55 (nI d) v2 v3 s.1 s.2 (nI (f + 1)) t) (h1 : ¬ cnt q 1 P d ≤ s.2 → k55 (nI d) v2 v3 (nI f) (cnt q 1 P d) (nI (f + 1)) t) : ∀ e x, x + e = q + 1 → q_X5_best_135 post k55 (e + 1) (nI d) v2 v3 s.1 s.2 (nI f) (byd q 1 P d + (nI x + ssm q 1 P x)) (nI x) t := by
  have hl := isP_lo hq
  have hp' : fgi t 53 1 = nI (q + 1) := hp
  intro e
  induction e with
  | zero =>
    intro x ex
    have ex : x = q + 1 := by omega
    subst ex
    unfold q_X5_best_135
    rw [hp']
    have ec : byd q 1 P d + (nI (q + 1) + ssm q 1 P (q + 1)) = cnt q 1 P d := by
      unfold cnt
      rw [Nat.pow_one, Int32.add_comm]
    rw [ec]
    refine ⟨fun _ => ⟨fun z x16 e16 => ?_, fun z x17 e17 => ?_⟩, fun z => absurd (nI_le (by omega) (by omega)) z⟩
    · rw [e16, nI_1]; exact h0 z
    · rw [e17, nI_1]; exact h1 z
  | succ e ih =>
    intro x ex
    unfold q_X5_best_135
    rw [hp']
    refine ⟨fun z => absurd z (nI_ge (by omega) (by omega)), fun _ => ⟨d + 1 + 1, ?_⟩⟩
    have := m_b150 (k55 := k55) (post := post) (x := x) (v := vl q 1 P x) (v1 := nI d) (v2 := v2) (v3 := v3) (v4 := s.1) (v5 := s.2) (v6 := nI f) (v7 := byd q 1 P d + (nI x + ssm q 1 P x)) (k135 := fun v1_ v2_ v3_ v4_ v5_ v6_ v7_ v8_ t_ => q_X5_best_135 post k55 (e + 1) v1_ v2_ v3_ v4_ v5_ v6_ v7_ v8_ t_) hq hp hr hx61 (by omega) ?_ (d + 1) 0 (by omega) (by omega) ?_
    · rw [pk_m1] at this
      exact this
    · have es : byd q 1 P d + (nI x + ssm q 1 P x) + (1 + sg q 1 (vl q 1 P x)) = byd q 1 P d + (nI (x + 1) + ssm q 1 P (x + 1)) := by
        rw [Int32.add_assoc, i_shuf, nI_1]; rfl
      rw [es]
      exact ih (x + 1) (by omega)
    · have := hv_deg (fl_1 hq) x hP (6 - d)
      rw [show d + 1 + (6 - d) = 7 by omega] at this
      exact this.symm
theorem m_best {q C d : Nat} {cv : Nat → Nat × Nat × Nat} {K : Int32} {T : Int64} (hq : isP q) (hd3 : 3 ≤ d) (hd6 : d ≤ 6) {a b : Nat} (ha : a ≤ 1000000) (hb : b ≤ 100) {post : Int32 → fcS → Prop} {r : Int32} (hh : ∀ t2, ST q C cv K T t2 → post r t2) : ∀ k f (s : Int32 × Int32) (t : fcS), f + k = a + b → a ≤ f → (bfo q d k f s).1 = r → ST q C cv K T t → q_X5_best_55 post (k + 1) (nI d) (nI a) (nI b) s.1 s.2 (nI f) t := by
  have hl := isP_lo hq
  have h30 : (q + 1) ^ 7 < 2 ^ 30 := pw7 hq (by omega)
  have h7 : (q + 1) ^ (d + 1) ≤ (q + 1) ^ 7 := Nat.pow_le_pow_right (by omega) (by omega)
  have hpos : 0 < (q + 1) ^ d := Nat.pow_pos (by omega)
  intro k
  induction k with
  | zero =>
    intro f s t ef haf er hS
    unfold q_X5_best_55
    rw [nI_add]
    have e2 : s.1 = r := er
    rw [e2]
    exact ⟨fun _ => hh t hS, fun z => absurd (nI_le (by omega) (by omega)) z⟩
  | succ k ih =>
    intro f s t ef haf er hS
    rw [bfo_s] at er
    have hp := hS.2.2.1.1
    unfold q_X5_best_55
    rw [nI_add]
    refine ⟨fun z => absurd z (nI_ge (by omega) (by omega)), fun _ => m_isDeg hq hp (by omega) (fun w => ⟨fun _ x10 e10 => ?_, fun z => absurd rfl z⟩) (fun w1 w2 => ⟨fun z => absurd z i0, fun _ => ?_⟩)⟩
    · rw [e10, nI_1]
      rw [nI_toInt (by omega)] at w
      refine ih (f + 1) s t (by omega) (by omega) ?_ hS
      rw [← er]
      unfold bst
      rw [cit_neg (fun v => by have := v.1.1; have := v.1.2.1; omega)]
    · rw [nI_toInt (by omega)] at w1 w2
      have hf : (q + 1) ^ d ≤ f := by omega
      have hf1 : f < (q + 1) ^ (d + 1) := by omega
      have hpd := pn_hdr hf hf1
      refine m_knot hq hp (by omega) (by omega) (by omega) (fun t2 n e2 r12 hn => ⟨fun z x13 e13 => ?_, fun z => ?_⟩) (knot_ne hq (by omega) (by omega))
      · have hn0 : n ≠ 0 := fun w => z (by rw [w]; rfl)
        rw [e13, nI_1]
        refine ih (f + 1) s t2 (by omega) (by omega) ?_ (ST_W hS (eqW_L e2))
        rw [← er]
        unfold bst
        rw [cit_neg (fun w => hn0 (hd_uq hn w.1.2.2))]
      · have hn7 := hd_lt hn (knot_dl hq (f := f) (by omega) (by omega))
        have hn0 : n = 0 := (nI_eq (b := 0) (by omega) (by omega)).mp z
        rw [hn0] at hn
        have hS2 := ST_W hS (eqW_L e2)
        refine m_signs hS2.2.2.1 hS2.2.2.2.1 (fl_1 hq) (fun t3 e3 s3 hx => ?_)
        have hS3 := ST_U hS2 e3 s3
        have h16 : (q + 1) ^ 7 ≤ (q + 1) ^ 16 := Nat.pow_le_pow_right (by omega) (by omega)
        refine m_load hq hS3.2.2.1.1 (a := 10) (by omega) (by omega) (by omega) (fun t4 e4 r4 => ⟨by decide, ?_⟩)
        have hS4 := ST_W hS3 (eqW_L e4)
        have hx4 : ∀ a, a < (q + 1) ^ 1 → fga t4 61 a = sg q 1 a := fun a ha => by rw [e4.2.2.1 61 (by omega)]; exact hx a ha
        have ed : irm (nI d) 2 = nI (d % 2) := rem_nI (d := 2) (by omega) (by omega) (by omega)
        have hPd := (pn q f d).isLt
        have h60 := r4.2 d (by omega)
        rw [show 16 * 10 + d = 160 + d by omega] at h60
        rw [ed, show (160 : Int32) + nI d = nI (160 + d) from nI_add 160 d, nI_clamp (by omega), h60, nI_clamp (by omega), hx4 _ (pl1 (fl_1 hq) _)]
        have go : ∀ b0 : Int32, b0 = byd q 1 (pn q f) d → ∃ n0, q_X5_best_135 post (fun v1_ v2_ v3_ v4_ v5_ v6_ t_ => q_X5_best_55 post (k + 1) v1_ v2_ v3_ v4_ v5_ v6_ t_) n0 (nI d) (nI a) (nI b) s.1 s.2 (nI f) b0 0 t4 := fun b0 eb => by
          refine ⟨q + 1 + 1, ?_⟩
          have := m_b135 (post := post) (f := f) (v2 := nI a) (v3 := nI b) (s := s) (k55 := fun v1_ v2_ v3_ v4_ v5_ v6_ t_ => q_X5_best_55 post (k + 1) v1_ v2_ v3_ v4_ v5_ v6_ t_) hq hS4.2.2.1.1 r4 hpd.1 hd6 hx4 (fun w => ?_) (fun w => ?_) (q + 1) 0 (by omega)
          · rw [show nI 0 + ssm q 1 (pn q f) 0 = 0 from rfl, Int32.add_zero, ← eb] at this
            exact this
          · refine ih (f + 1) s t4 (by omega) (by omega) ?_ hS4
            rw [← er]
            unfold bst
            rw [cit_neg (fun v => absurd v.2 (Int32.not_lt.mpr w))]
          · refine ih (f + 1) (nI f, cnt q 1 (pn q f) d) t4 (by omega) (by omega) ?_ hS4
            rw [← er]
            unfold bst
            rw [cit_pos ⟨⟨hf, hf1, hn⟩, Int32.not_le.mp w⟩]
        by_cases cd : d % 2 = 1
        · rw [cd]
          exact ⟨fun z => absurd rfl z, fun _ => go 1 (by unfold byd; rw [if_pos cd])⟩
        · have c0 : d % 2 = 0 := by omega
          rw [c0]
          refine ⟨fun _ => ⟨vp_in_nI (by omega) (by omega), vp_in_nI (by omega) (by omega), fun z => go 0 ?_, fun z => go 2 ?_⟩, fun z => absurd z (by decide)⟩
          · unfold byd; rw [if_neg cd, if_neg z]
          · unfold byd; rw [if_neg cd, if_pos z]
theorem if_nI {a b : Nat} (ha : a < 2 ^ 31) (hb : b < 2 ^ 31) : (if nI a < nI b then nI b else nI a) = nI (max a b) := by
  by_cases c : a < b
  · rw [if_pos (nI_lt c hb), Nat.max_eq_right (by omega)]
  · rw [if_neg (nI_nlt (by omega) ha), Nat.max_eq_left (by omega)]
theorem if_nI2 {a b : Nat} (ha : a < 2 ^ 31) (hb : b < 2 ^ 31) : (if nI a < nI b then nI a else nI b) = nI (min a b) := by
  by_cases c : a < b
  · rw [if_pos (nI_lt c hb), Nat.min_eq_left (by omega)]
  · rw [if_neg (nI_nlt (by omega) ha), Nat.min_eq_right (by omega)]
theorem ok_23 : fOK_23 Inv := by
  intro t x y z ⟨q, C, cv, K, T, hS⟩
  have hq := hS.1.1
  have hl := isP_lo hq
  have o3 : (3 : Int64).toInt = 3 := by decide
  have o6 : (6 : Int64).toInt = 6 := by decide
  have oM : (1000000 : Int64).toInt = 1000000 := by decide
  have oC : (100 : Int64).toInt = 100 := by decide
  have p3 : (3 : Int32).toInt = 3 := by decide
  have p6 : (6 : Int32).toInt = 6 := by decide
  have pM : (1000000 : Int32).toInt = 1000000 := by decide
  have pC : (100 : Int32).toInt = 100 := by decide
  refine c_field hS (fun hno => absurd (rfl : (1 : Int32) = nI 1) (hno 1 (fl_1 hq))) (fun n g t2 hf e1 ef hS2 ht hk => ⟨fun e => (nomatch e), fun i2 e2 => ?_⟩)
  obtain rfl := Option.some.inj e2
  have n1 : n = 1 := ((nI_eq (a := 1) (by omega) (by have := (nfd_ok hq).2; have := hf.2; omega)).mp e1).symm
  subst n1
  have hp2 := hS2.2.1.1.1
  refine ⟨hk, ?_⟩
  have h0 := ST_0 hS2
  have hI := ST_Inv h0
  by_cases good : (3 ≤ x.toInt ∧ x.toInt ≤ 6) ∧ (0 ≤ y.toInt ∧ y.toInt ≤ 1000000) ∧ 1 ≤ z.toInt ∧ z.toInt ≤ 100
  · obtain ⟨g1, g2, g3⟩ := good
    obtain ⟨d, rfl, hd3, hd6⟩ : ∃ n, x = nI n ∧ 3 ≤ n ∧ n ≤ 6 := by
      rcases ix_cases x (m := 7) (by omega) with w | ⟨j, hj, rfl⟩
      · omega
      · rw [nI_toInt (by omega)] at g1
        exact ⟨j, rfl, by omega, by omega⟩
    obtain ⟨a, rfl, ha⟩ : ∃ n, y = nI n ∧ n ≤ 1000000 := by
      rcases ix_cases y (m := 1000001) (by omega) with w | ⟨j, hj, rfl⟩
      · omega
      · exact ⟨j, rfl, by omega⟩
    obtain ⟨b, rfl, hb1, hb⟩ : ∃ n, z = nI n ∧ 1 ≤ n ∧ n ≤ 100 := by
      rcases ix_cases z (m := 101) (by omega) with w | ⟨j, hj, rfl⟩
      · omega
      · rw [nI_toInt (by omega)] at g3
        exact ⟨j, rfl, by omega, by omega⟩
    have h30 : (q + 1) ^ 7 < 2 ^ 30 := pw7 hq (by omega)
    have h7 : (q + 1) ^ (d + 1) ≤ (q + 1) ^ 7 := Nat.pow_le_pow_right (by omega) (by omega)
    have h8 : (q + 1) ^ d ≤ (q + 1) ^ (d + 1) := Nat.pow_le_pow_right (by omega) (by omega)
    refine ⟨fun z => absurd z (nI_nlt (a := d) (b := 3) hd3 (by omega)), fun _ => ⟨fun z => absurd z (nI_nlt (a := 6) (b := d) hd6 (by omega)), fun _ => ⟨fun z => absurd z (nI_pos (by omega)), fun _ => ⟨fun z => absurd z (nI_nlt (a := 1000000) (b := a) ha (by omega)), fun _ => ⟨fun z => absurd z (nI_nlt (a := b) (b := 1) hb1 (by omega)), fun _ => ⟨fun _ => ?_, fun z => absurd (show nI b ≤ nI 100 from nI_le hb (by omega)) z⟩⟩⟩⟩⟩⟩
    refine s_place hp2 (k := d) (by omega) (by omega) (fun x11 e11 => ?_)
    rw [nI_1]
    refine s_place hp2 (k := d + 1) (by omega) (by omega) (fun x14 e14 => ?_)
    rw [if_nI (by omega) (by omega)] at e11
    rw [nI_add, if_nI2 (by omega) (by omega)] at e14
    subst e11 e14
    have fold : bfo q d b a (-9, -1) = bfo q d (min ((q + 1) ^ (d + 1)) (a + b) - max a ((q + 1) ^ d)) (max a ((q + 1) ^ d)) (-9, -1) := by
      rcases Nat.lt_or_ge (max a ((q + 1) ^ d)) (min ((q + 1) ^ (d + 1)) (a + b)) with w | w
      · rw [show b = (max a ((q + 1) ^ d) - a) + ((min ((q + 1) ^ (d + 1)) (a + b) - max a ((q + 1) ^ d)) + (a + b - min ((q + 1) ^ (d + 1)) (a + b))) by omega, bfo_add, bfo_add, bfo_skip (max a ((q + 1) ^ d) - a)]
        · rw [bfo_skip (a + _ - _)]
          · congr 1
            · omega
            · omega
          · intro i h1 h2 h3
            have := h3.2.1
            omega
        · intro i h1 h2 h3
          have := h3.1
          omega
      · rw [bfo_skip b, show min ((q + 1) ^ (d + 1)) (a + b) - max a ((q + 1) ^ d) = 0 by omega]
        · rfl
        · intro i h1 h2 h3
          have := h3.1
          have := h3.2.1
          omega
    have ref : ∀ r, r = (bfo q d b a (-9, -1)).1 → q_X5_best t2 (nI d) (nI a) (nI b) (fun r2 t3 => r = r2 ∧ Inv t3) := fun r er t1 e1 => by
      subst e1
      refine m_in (fun c => ?_) (fun _ _ => ⟨fun z => absurd z i0, fun _ => m_in (fun c => ?_) (fun _ _ => ⟨fun z => absurd z i0, fun _ => m_in (fun c => ?_) (fun _ _ => ⟨fun _ => ⟨b + 1, ?_⟩, fun z => absurd z i0⟩)⟩)⟩)
      · rw [ti_i, o3, o6] at c; omega
      · rw [ti_i, ti_0, oM] at c; omega
      · rw [ti_i, ti_1, oC] at c; omega
      · exact m_best (r := r) hq hd3 hd6 ha hb (fun t3 hS3 => ⟨rfl, ST_Inv hS3⟩) b a (-9, -1) _ (by omega) (Nat.le_refl _) er.symm (ST_0 hS2)
    rcases Nat.lt_or_ge (max a ((q + 1) ^ d)) (min ((q + 1) ^ (d + 1)) (a + b)) with w | w
    · refine ⟨_, c_best hq hp2 ht hd3 hd6 (by omega) (min ((q + 1) ^ (d + 1)) (a + b) - max a ((q + 1) ^ d)) (max a ((q + 1) ^ d)) (-9, -1) (by omega) (by omega) ?_⟩
      exact ref _ (by rw [fold])
    · refine ⟨1, ?_⟩
      unfold q_X4_best_89
      refine ⟨fun _ => ref _ ?_, fun z => absurd (nI_le w (by omega)) z⟩
      rw [fold, show min ((q + 1) ^ (d + 1)) (a + b) - max a ((q + 1) ^ d) = 0 by omega]
      rfl
  · have rb : q_X5_best t2 x y z (fun r2 t3 => (-1 : Int32) = r2 ∧ Inv t3) := fun t1 e1 => by
      subst e1
      refine m_in (fun _ => ⟨fun _ => ⟨rfl, hI⟩, fun z => absurd rfl z⟩) (fun c1 c2 => ⟨fun z => absurd z i0, fun _ => m_in (fun _ => ⟨fun _ => ⟨rfl, hI⟩, fun z => absurd rfl z⟩) (fun c3 c4 => ⟨fun z => absurd z i0, fun _ => m_in (fun _ => ⟨fun z => absurd rfl z, fun _ => ⟨rfl, hI⟩⟩) (fun c5 c6 => ?_)⟩)⟩)
      rw [ti_i] at c1 c2 c3 c4 c5 c6
      rw [o3] at c1
      rw [o6] at c2
      rw [ti_0] at c3
      rw [oM] at c4
      rw [ti_1] at c5
      rw [oC] at c6
      exact absurd ⟨⟨c1, c2⟩, ⟨c3, c4⟩, c5, c6⟩ good
    refine ⟨fun _ => rb, fun c1 => ⟨fun _ => rb, fun c2 => ⟨fun _ => rb, fun c3 => ⟨fun _ => rb, fun c4 => ⟨fun _ => rb, fun c5 => ⟨fun c6 => ?_, fun _ => rb⟩⟩⟩⟩⟩⟩
    exfalso
    rw [Int32.lt_iff_toInt_lt, p3] at c1
    rw [Int32.lt_iff_toInt_lt, p6] at c2
    rw [Int32.lt_iff_toInt_lt, o32_0] at c3
    rw [Int32.lt_iff_toInt_lt, pM] at c4
    rw [Int32.lt_iff_toInt_lt, o32_1] at c5
    rw [Int32.le_iff_toInt_le, pC] at c6
    exact good ⟨by omega, by omega, by omega⟩
