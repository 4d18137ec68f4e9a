/-! a new CURVE: the reference -/
theorem cmp_lt (x y : Int64) : lg_cmp x y < 0 ↔ x.toInt < y.toInt := by
  unfold lg_cmp
  rw [← Int64.lt_iff_toInt_lt]
  by_cases c : x > y
  · rw [if_pos c]
    refine ⟨fun z => absurd z (by decide), fun z => ?_⟩
    have c : y < x := c
    rw [Int64.lt_iff_toInt_lt] at c z
    omega
  · rw [if_neg c]
    by_cases c2 : x = y
    · rw [if_pos c2, c2]
      exact ⟨fun z => absurd z (by decide), fun z => by rw [Int64.lt_iff_toInt_lt] at z; omega⟩
    · rw [if_neg c2]
      refine ⟨fun _ => ?_, fun _ => by decide⟩
      have c : ¬ y < x := c
      rw [Int64.lt_iff_toInt_lt] at c ⊢
      have : x.toInt ≠ y.toInt := fun z => c2 (Int64.toInt_inj.mp z)
      omega
theorem cmp_ge (x y : Int64) : 0 ≤ lg_cmp x y ↔ y.toInt ≤ x.toInt := by
  have h := cmp_lt x y
  have e0 : (0 : Int32).toInt = 0 := by decide
  rw [Int32.lt_iff_toInt_lt, e0] at h
  rw [Int32.le_iff_toInt_le, e0]
  omega
theorem m_isDeg {t : fcS} {q k : Nat} (hq : isP q) (hp : mp t q) (hk : k ≤ 6) {x : Int32} {post : Int32 → fcS → Prop} (h0 : x.toInt < ((q + 1) ^ k : Nat) ∨ (((q + 1) ^ (k + 1) : Nat) : Int) ≤ x.toInt → post 0 t) (h1 : (((q + 1) ^ k : Nat) : Int) ≤ x.toInt → x.toInt < ((q + 1) ^ (k + 1) : Nat) → post 1 t) : q_X5_isDegree t x (nI k) post := by
  have hl := isP_lo hq
  have hP : ∀ j, j ≤ 7 → (q + 1) ^ j < 2 ^ 30 := fun j hj => pw7 hq (by omega)
  have hPe : Int32.toInt64 (fgi t 53 1) = lN (q + 1) := by rw [show fgi t 53 1 = nI (q + 1) from hp, nI_l (by omega)]
  have key : ∀ d i, i + d = k → q_X5_isDegree_5 post (d + 1) x (nI k) (lN ((q + 1) ^ i)) (nI i) t := by
    intro d
    induction d with
    | zero =>
      intro i e
      have e : i = k := by omega
      subst e
      unfold q_X5_isDegree_5
      have p1 := hP i (by omega)
      have p2 := hP (i + 1) (by omega)
      rw [hPe, lN_mul, ← Nat.pow_succ, cmp_lt, cmp_ge, ti_i, lN_toInt (by omega), lN_toInt (show (q + 1) ^ (i + 1) < 2 ^ 31 by omega)]
      exact ⟨fun _ => ⟨fun c => h0 (Or.inl c), fun c => ⟨fun c2 => h0 (Or.inr c2), fun c2 => h1 (by omega) (by omega)⟩⟩, fun c => absurd (nI_le (Nat.le_refl i) (by omega)) c⟩
    | succ d ih =>
      intro i e
      unfold q_X5_isDegree_5
      refine ⟨fun c => absurd ((nI_leI (by omega) (by omega)).mp c) (by omega), fun _ x1 e1 x2 e2 => ?_⟩
      rw [hPe, lN_mul, ← Nat.pow_succ] at e1
      rw [e1, e2, nI_1]
      exact ih (i + 1) (by omega)
  exact ⟨k + 1, key k 0 (by omega)⟩
theorem m_shaped {t : fcS} {q : Nat} (hq : isP q) (hp : mp t q) {x : Int32} {post : Int32 → fcS → Prop} (h0 : (∀ f, (q + 1) ^ 3 ≤ f → f < (q + 1) ^ 7 → x ≠ nI f) → post 0 t) (h1 : ∀ f, (q + 1) ^ 3 ≤ f → f < (q + 1) ^ 7 → x = nI f → post 1 t) : q_X5_isShaped t x post := by
  have h7 : (q + 1) ^ 7 < 2 ^ 30 := pw7 hq (by omega)
  have m34 : (q + 1) ^ 3 ≤ (q + 1) ^ 4 := Nat.pow_le_pow_right (by omega) (by omega)
  have m45 : (q + 1) ^ 4 ≤ (q + 1) ^ 5 := Nat.pow_le_pow_right (by omega) (by omega)
  have m56 : (q + 1) ^ 5 ≤ (q + 1) ^ 6 := Nat.pow_le_pow_right (by omega) (by omega)
  have m67 : (q + 1) ^ 6 ≤ (q + 1) ^ 7 := Nat.pow_le_pow_right (by omega) (by omega)
  have e4 : (q + 1) ^ (3 + 1) = (q + 1) ^ 4 := rfl
  have e5 : (q + 1) ^ (4 + 1) = (q + 1) ^ 5 := rfl
  have e6 : (q + 1) ^ (5 + 1) = (q + 1) ^ 6 := rfl
  have e7 : (q + 1) ^ (6 + 1) = (q + 1) ^ 7 := rfl
  have yes : (((q + 1) ^ 3 : Nat) : Int) ≤ x.toInt → x.toInt < ((q + 1) ^ 7 : Nat) → post 1 t := fun a b => by
    have e : x = nI x.toInt.toNat := nI_inj2 (by omega) (by omega)
    exact h1 x.toInt.toNat (by omega) (by omega) e
  unfold q_X5_isShaped
  refine m_isDeg (k := 3) hq hp (by omega) (fun c3 => ⟨fun z => absurd rfl z, fun _ => ?_⟩) (fun a b => ⟨fun _ => yes a (by omega), fun z => absurd z i0⟩)
  refine m_isDeg (k := 4) hq hp (by omega) (fun c4 => ⟨fun z => absurd rfl z, fun _ => ?_⟩) (fun a b => ⟨fun _ => yes (by omega) (by omega), fun z => absurd z i0⟩)
  refine m_isDeg (k := 5) hq hp (by omega) (fun c5 => ⟨fun z => absurd rfl z, fun _ => ?_⟩) (fun a b => ⟨fun _ => yes (by omega) (by omega), fun z => absurd z i0⟩)
  refine m_isDeg (k := 6) hq hp (by omega) (fun c6 => ⟨fun _ => h0 (fun f a b e => ?_), fun z => absurd rfl z⟩) (fun a b => ⟨fun z => absurd z i0, fun _ => yes (by omega) (by omega)⟩)
  rw [e, nI_toInt (by omega)] at c3 c4 c5 c6
  omega
def eqG (t t2 : fcS) (C : Nat) : Prop := (∀ a j, ¬ (a = 53 ∧ (j = 0 ∨ j = 6 ∨ j = 11)) → fgi t2 a j = fgi t a j) ∧ (∀ k, k < 56 ∨ 60 < k → fga t2 k = fga t k) ∧ t2.2.2 = t.2.2 ∧ (∀ j, j < C → fga t2 56 j = fga t 56 j ∧ fga t2 57 j = fga t 57 j ∧ fga t2 58 j = fga t 58 j) ∧ ∀ j, j < 16 * C → fga t2 59 j = fga t 59 j
theorem eqG_rf (t : fcS) (C : Nat) : eqG t t C := ⟨fun _ _ _ => rfl, fun _ _ => rfl, rfl, fun _ _ => ⟨rfl, rfl, rfl⟩, fun _ _ => rfl⟩
theorem eqG_tr {t t2 t3 : fcS} {C : Nat} (h : eqG t t2 C) (h2 : eqG t2 t3 C) : eqG t t3 C := ⟨fun a j hj => (h2.1 a j hj).trans (h.1 a j hj), fun k hk => (h2.2.1 k hk).trans (h.2.1 k hk), h2.2.2.1.trans h.2.2.1, fun j hj => ⟨(h2.2.2.2.1 j hj).1.trans (h.2.2.2.1 j hj).1, (h2.2.2.2.1 j hj).2.1.trans (h.2.2.2.1 j hj).2.1, (h2.2.2.2.1 j hj).2.2.trans (h.2.2.2.1 j hj).2.2⟩, fun j hj => (h2.2.2.2.2 j hj).trans (h.2.2.2.2 j hj)⟩
theorem eqG_fsi (t : fcS) (C : Nat) {j : Nat} (hj : j = 0 ∨ j = 6 ∨ j = 11) (v : Int32) : eqG t (fsi t 53 j v) C := ⟨fun a b hb => by rw [gi_fsi, if_neg (by omega)], fun _ _ => rfl, rfl, fun _ _ => ⟨rfl, rfl, rfl⟩, fun _ _ => rfl⟩
theorem eqG_W {t t2 : fcS} (C : Nat) (h : eqW t t2) : eqG t t2 C := ⟨fun a j _ => eqW_gi h a j, fun k hk => h.2.2 k (by omega), h.2.1, fun j _ => ⟨by rw [h.2.2 56 (by omega)], by rw [h.2.2 57 (by omega)], by rw [h.2.2 58 (by omega)]⟩, fun j _ => by rw [h.2.2 59 (by omega)]⟩
theorem eqG_fsa (t : fcS) (C : Nat) {r i : Nat} (hr : ((r = 56 ∨ r = 57 ∨ r = 58) ∧ i = C) ∨ (r = 59 ∧ 16 * C ≤ i)) (v : Int32) : eqG t (fsa t r i v) C := by
  have hx : ∀ a j, (a ≠ r ∨ j ≠ i) → fga (fsa t r i v) a j = fga t a j := fun a j h => by
    by_cases c : a = r
    · subst c
      rw [ga_fsaG, if_neg (by omega)]
    · rw [ga_fsaN t c]
  refine ⟨fun _ _ _ => rfl, fun k hk => ga_fsaN t (by omega) i v, rfl, fun j hj => ⟨hx _ _ (by omega), hx _ _ (by omega), hx _ _ (by omega)⟩, fun j hj => hx _ _ (by omega)⟩
theorem ga_at (t : fcS) (r i : Nat) (v : Int32) : fga (fsa t r i v) r i = v := by rw [ga_fsaG, if_pos rfl]
theorem m_own {t : fcS} {q C : Nat} (hC : C < 8) {P : PS q} (hr : rwI t 10 P) (h6 : fgi t 53 6 = nI C) {post : Int32 → fcS → Prop} (hh : ∀ t2, eqG t t2 C → fgi t2 53 6 = nI (C + 1) → fgi t2 53 11 = fgi t 53 11 → fga t2 56 = fga t 56 → fga t2 57 = fga t 57 → fga t2 58 = fga t 58 → (∀ i, i < 16 → fga t2 59 (16 * C + i) = nI (P i).val) → post (nI C) t2) : ∃ n0, q_X5_curve_247 post n0 (nI C) 0 t := by
  have key : ∀ d i (t1 : fcS), i + d = 16 → eqG t t1 C → fgi t1 53 6 = nI C → fgi t1 53 11 = fgi t 53 11 → fga t1 56 = fga t 56 → fga t1 57 = fga t 57 → fga t1 58 = fga t 58 → fga t1 60 = fga t 60 → (∀ j, j < i → fga t1 59 (16 * C + j) = nI (P j).val) → q_X5_curve_247 post (d + 1) (nI C) (nI i) t1 := by
    intro d
    induction d with
    | zero =>
      intro i t1 e e1 g6 g11 a1 a2 a3 a4 hj
      have e : i = 16 := by omega
      subst e
      unfold q_X5_curve_247
      refine ⟨fun _ t14 e14 => ?_, fun c => absurd (by decide) c⟩
      rw [g6, nI_1] at e14
      subst e14
      exact hh _ (eqG_tr e1 (eqG_fsi t1 C (by omega) _)) (gi_same _ _ _ _) (by rw [gi_fsi, if_neg (by omega)]; exact g11) a1 a2 a3 hj
    | succ d ih =>
      intro i t1 e e1 g6 g11 a1 a2 a3 a4 hj
      unfold q_X5_curve_247
      have x1 : (160 : Int32) + nI i = nI (16 * 10 + i) := by rw [show (160 : Int32) = nI 160 from rfl, nI_add]
      have x2 : (16 : Int32) * nI C + nI i = nI (16 * C + i) := by rw [show (16 : Int32) = nI 16 from rfl, pk_mul, nI_add]
      refine ⟨fun c => absurd c (c16 (by omega)), fun _ => ?_⟩
      rw [x1, x2, nI_clamp (by omega), nI_clamp (by omega)]
      refine ⟨vp_in_nI (by omega) (by omega), vp_in_nI (by omega) (by omega), fun t15 e15 x16 e16 => ?_⟩
      rw [e16, nI_1]
      subst e15
      refine ih (i + 1) _ (by omega) (eqG_tr e1 (eqG_fsa t1 C (Or.inr ⟨rfl, by omega⟩) _)) g6 g11 (by rw [ga_fsaN t1 (by omega)]; exact a1) (by rw [ga_fsaN t1 (by omega)]; exact a2) (by rw [ga_fsaN t1 (by omega)]; exact a3) (by rw [ga_fsaN t1 (by omega)]; exact a4) (fun j hj2 => ?_)
      rw [ga_fsaG]
      by_cases c : j = i
      · rw [if_pos (by omega), a4, c]; exact hr.2 i (by omega)
      · rw [if_neg (by omega)]; exact hj j (by omega)
  exact ⟨17, key 16 0 t (by omega) (eqG_rf t C) h6 rfl rfl rfl rfl rfl (fun j hj => by omega)⟩
theorem m_moved {t : fcS} {q C : Nat} (hq : isP q) (hp : mp t q) {f : PS q} (hf : dl f 7) (c : Fin (q + 1)) (r10 : rwI t 10 f) (r12 : rwI t 12 (plin c)) {v1 : Int32} {post : Int32 → fcS → Prop} (hh : ∀ t2, eqW t t2 → rwI t2 10 (pmv f c 7 6) → q_X5_curve_230 post v1 (nI C) t2) : ∀ k d (t1 : fcS), d + k = 7 → eqL t t1 [11, 13] → rwI t1 11 (pmv f c d 6) → q_X5_curve_160 post (k + 1) v1 (nI C) (nI k + (-1)) t1 := by
  have hl := isP_lo hq
  intro k
  induction k with
  | zero =>
    intro d t1 e e1 r11
    have e : d = 7 := by omega
    subst e
    unfold q_X5_curve_160
    refine ⟨fun _ => ?_, fun c => absurd (by decide) c⟩
    refine m_copy (a := 10) (b := 11) (by omega) (by omega) (by omega) r11 (fun t2 e2 r2 => ?_)
    exact hh t2 (eqW_tr (eqW_L e1) (eqW_L e2)) r2
  | succ k ih =>
    intro d t1 e e1 r11
    unfold q_X5_curve_160
    rw [pk_m1]
    refine ⟨fun c => absurd c (nI_pos (by omega)), fun _ => ?_⟩
    have hd := pmv_dl f c 6 d
    refine m_mul hq (eqL_mp e1 hp) (r := 13) (a := 11) (b := 12) (by omega) (by omega) (by omega) (by omega) (by omega) r11 (eqL_row e1 (by simp) r12) hd (plin_dl c) (by omega) (fun t2 e2 r2 => ?_)
    refine m_copy (a := 11) (b := 13) (by omega) (by omega) (by omega) r2 (fun t3 e3 r3 => ?_)
    have e13 : eqL t t3 [11, 13] := eqL_mono (eqL_tr e1 (eqL_tr e2 e3)) (by simp)
    have hp3 := eqL_mp e13 hp
    have x1 : (160 : Int32) + nI k = nI (16 * 10 + k) := by rw [show (160 : Int32) = nI 160 from rfl, nI_add]
    rw [x1, nI_clamp (by omega), show Int32.toNatClampNeg 176 = 16 * 11 + 0 from rfl, show fgi t3 53 1 = nI (q + 1) from hp3]
    have r10' := eqL_row e13 (by simp) r10
    refine ⟨vp_in_nI (n := 176) (by omega) (by omega), vp_in_nI (by omega) (by omega), nI_ne0 (by omega) (by omega), vp_in_nI (n := 176) (by omega) (by omega), fun t23 e23 x24 e24 => ?_⟩
    rw [r3.2 0 (by omega), r10'.2 k (by omega), nI_add] at e23
    have hv1 := (pl_mul (pmv f c d 6) (plin c) 0).isLt
    have hv2 := (f k).isLt
    rw [rem_nI (by omega) (by omega) (by omega)] at e23
    rw [e24]
    subst e23
    refine ih (d + 1) _ (by omega) (eqL_fsa e13 (by simp) (by omega) _) ?_
    rw [pmv, show 6 - d = k by omega]
    refine ⟨dl_add (dl_mono (dl_mul hd (plin_dl c)) (by omega)) (dl_mono (pc_dl _) (by omega)), fun i hi => ?_⟩
    rw [ga_fsa]
    by_cases c0 : i = 0
    · subst c0
      rw [if_pos rfl]
      congr 1
    · rw [if_neg (by omega), r3.2 i hi]
      congr 2
      show _ = pl_mul (pmv f c d 6) (plin c) i + (if i = 0 then f k else 0)
      rw [if_neg c0]; grind
theorem m_scaled {t : fcS} {q C : Nat} (hq : isP q) (hp : mp t q) (hd : fgi t 53 5 = nI (dns q)) {F : PS q} (r10 : rwI t 10 F) {v : Nat} (hv : v ≤ 2) {post : Int32 → fcS → Prop} (hh : ∀ t2, eqW t t2 → rwI t2 10 (if v = 0 then F else pscl F (Fin.ofNat (q + 1) (dns q))) → ∃ n0, q_X5_curve_247 post n0 (nI C) 0 t2) : q_X5_curve_230 post (nI v) (nI C) t := by
  unfold q_X5_curve_230
  refine ⟨fun c => ?_, fun c => ?_⟩
  · have hv0 : v = 0 := by
      rcases Nat.eq_zero_or_pos v with w | w
      · exact w
      · exact absurd c (nI_nle w (by omega))
    exact hh t (eqW_rf t) (by rw [if_pos hv0]; exact r10)
  · have hv0 : ¬ v = 0 := fun z => c (by rw [z]; decide)
    obtain ⟨d1, -⟩ := dns_ok hq
    rw [hd, show nI (dns q) = nI (Fin.ofNat (q + 1) (dns q)).val by rw [fv_val d1]]
    refine m_scl hq hp (a := 10) (by omega) _ r10 (fun t2 e2 r2 => ?_)
    exact hh t2 (eqW_L e2) (by rw [if_neg hv0]; exact r2)
