/-! the class's field methods -/
theorem pw7 {q m : Nat} (hq : isP q) (hm : m ≤ 8) : (q + 1) ^ m < 2 ^ 30 := by
  have hl := isP_lo hq
  have h1 : (q + 1) ^ m ≤ (q + 1) ^ 8 := Nat.pow_le_pow_right (by omega) hm
  have h2 : (q + 1) ^ 8 ≤ 13 ^ 8 := Nat.pow_le_pow_left (by omega) 8
  have h3 : (13 : Nat) ^ 8 = 815730721 := by decide
  omega
theorem ad_lt {q a b m : Nat} (hq : isP q) (hm : (q + 1) ^ m < 2 ^ 30) (ha : a < (q + 1) ^ m) (hb : b < (q + 1) ^ m) : ad q a b < (q + 1) ^ m ∧ pn q (ad q a b) = padd (pn q a) (pn q b) ∧ nI (ad q a b) = Ni q (padd (pn q a) (pn q b)) := by
  have hd : dl (padd (pn q a) (pn q b)) m := dl_add (pn_dl ha) (pn_dl hb)
  unfold ad
  have e := nu_dl hd (pow18 (isP_lo hq).1 hm)
  refine ⟨by rw [e]; exact nu_lt _ _, by rw [e, pn_nu hd], rfl⟩
theorem s_ad {t : fcS} {q a b m : Nat} (hq : isP q) (hp : rp t q) (hm : (q + 1) ^ m < 2 ^ 30) (ha : a < (q + 1) ^ m) (hb : b < (q + 1) ^ m) {post : Int32 → fcS → Prop} (h : post (nI (ad q a b)) t) : q_X3_sum t (nI a) (nI b) post := by
  rw [Ni_pn hq hm ha, Ni_pn hq hm hb]
  refine s_sum hq hp hm (pn_dl ha) (pn_dl hb) ?_
  rw [← (ad_lt hq hm ha hb).2.2]; exact h
def tb (t : fcS) (q n k g : Nat) : Prop := fgi t k 5 = nI ((q + 1) ^ n) ∧ fgi t k 6 = nI ((q + 1) ^ n - 1) ∧ fgi t k 7 = nI (Mnu q n) ∧ gnr q n g ∧ (∀ e, e < (q + 1) ^ n - 1 → fga t (k + 1) e = nI (pw q n g e)) ∧ ∀ e, e < (q + 1) ^ n - 1 → fga t (k + 2) (pw q n g e) = nI e
theorem tb_of {t : fcS} {q n k : Nat} (h : fl q n) {g : PS q} (ht : tab t q n k g) : tb t q n k (nu q n g) := by
  obtain ⟨h1, h2, h3, h4, h5, h6, h7, h8⟩ := ht
  obtain ⟨g1, g2⟩ := gnr_of h h6 h5
  have hs := fl_sz h
  refine ⟨h2, h3, h4, g1, fun e he => ?_, fun e he => ?_⟩
  · rw [h7 e he, Ni_dl (isP_lo h.1).1 hs.2.2 (fpw_dl h.1 (fl_M h) h6 e), g2]
  · rw [← g2]; exact h8 e he
/-- what the rows say of a number but 0 -/
theorem tb_at {t : fcS} {q n k g : Nat} (h : fl q n) (ht : tb t q n k g) {a : Nat} (a0 : a ≠ 0) (ha : a < (q + 1) ^ n) : ∃ i, i < (q + 1) ^ n - 1 ∧ pw q n g i = a ∧ fga t (k + 2) a = nI i := by
  obtain ⟨i, h1, h2⟩ := ht.2.2.2.1.2.2.2.2 a (by omega) ha
  refine ⟨i, h1, h2, ?_⟩
  have := ht.2.2.2.2.2 i h1
  rw [h2] at this; exact this
theorem s_prod {t : fcS} {q n k g a b : Nat} (h : fl q n) (ht : tb t q n k g) (ha : a < (q + 1) ^ n) (hb : b < (q + 1) ^ n) {post : Int32 → fcS → Prop} (hh : post (nI (ml q n a b)) t) : q_X2_product t k (nI a) (nI b) post := by
  have hs := fl_sz h
  unfold q_X2_product
  by_cases a0 : a = 0
  · subst a0
    rw [ml_zeroL h] at hh
    exact ⟨fun _ => hh, fun c => absurd rfl c⟩
  · refine ⟨fun c => absurd c (nI_ne0 (by omega) (by omega)), fun _ => ?_⟩
    by_cases b0 : b = 0
    · subst b0
      rw [ml_zero h] at hh
      exact ⟨fun c => absurd rfl c, fun _ => hh⟩
    · refine ⟨fun _ => ?_, fun c => absurd c (nI_ne0 (by omega) (by omega))⟩
      obtain ⟨i, i1, i2, i3⟩ := tb_at h ht a0 ha
      obtain ⟨j, j1, j2, j3⟩ := tb_at h ht b0 hb
      refine s_at (by omega) (by omega) (s_at (by omega) (by omega) ⟨?_, ?_⟩)
      · rw [ht.2.1]; exact nI_ne0 (by omega) (by omega)
      · rw [i3, j3, ht.2.1, nI_add, rem_nI (by omega) (by omega) (by omega)]
        have hm : (i + j) % ((q + 1) ^ n - 1) < (q + 1) ^ n - 1 := Nat.mod_lt _ (by omega)
        refine s_at (by omega) (by omega) ?_
        rw [ht.2.2.2.2.1 _ hm, ← pw_mod h ht.2.2.2.1.1 ht.2.2.2.1.2.1, pw_add h ht.2.2.2.1.1, i2, j2]
        exact hh
theorem s_pow {t : fcS} {q n k g a e : Nat} (h : fl q n) (ht : tb t q n k g) (ha : a < (q + 1) ^ n) (he : e < 2 ^ 31) {post : Int32 → fcS → Prop} (hh : post (nI (pw q n a e)) t) : q_X2_power t k (nI a) (nI e) post := by
  have hs := fl_sz h
  unfold q_X2_power
  by_cases e0 : e = 0
  · subst e0
    rw [pw_0 h] at hh
    exact ⟨fun c => absurd rfl c, fun _ => hh⟩
  · refine ⟨fun _ => ?_, fun c => absurd c (nI_ne0 (by omega) (by omega))⟩
    by_cases a0 : a = 0
    · subst a0
      rw [pw_z h (by omega)] at hh
      exact ⟨fun c => absurd rfl c, fun _ => hh⟩
    · refine ⟨fun _ => ?_, fun c => absurd c (nI_ne0 (by omega) (by omega))⟩
      obtain ⟨i, i1, i2, i3⟩ := tb_at h ht a0 ha
      refine s_at (by omega) (by omega) ?_
      rw [ht.2.1, nI_l (by omega), i3, nI_l (by omega), nI_l he, lN_mul]
      have hie : i * e < 2 ^ 63 := by
        have : i * e ≤ 343 * 2 ^ 31 := Nat.mul_le_mul (by omega) (by omega)
        omega
      refine ⟨fun c => ?_, ?_⟩
      · have := (pk_lEQ (a := (q + 1) ^ n - 1) (b := 0) (by omega) (by omega)).mp c
        omega
      · rw [show lrm (lN (i * e)) (lN ((q + 1) ^ n - 1)) = lN (i * e % ((q + 1) ^ n - 1)) from pk_lRem hie (by omega) (by omega), lN_i]
        have hm : (i * e) % ((q + 1) ^ n - 1) < (q + 1) ^ n - 1 := Nat.mod_lt _ (by omega)
        refine s_at (by omega) (by omega) ?_
        rw [ht.2.2.2.2.1 _ hm, ← pw_mod h ht.2.2.2.1.1 ht.2.2.2.1.2.1, pw_mul h ht.2.2.2.1.1, i2]
        exact hh
theorem s_sgn {t : fcS} {q n k g a : Nat} (h : fl q n) (ht : tb t q n k g) (ha : a < (q + 1) ^ n) {post : Int32 → fcS → Prop} (hh : post (sg q n a) t) : q_X2_squareSign t k (nI a) post := by
  have hs := fl_sz h
  unfold q_X2_squareSign
  by_cases a0 : a = 0
  · subst a0
    exact ⟨fun c => absurd rfl c, fun _ => hh⟩
  · refine ⟨fun _ => ?_, fun c => absurd c (nI_ne0 (by omega) (by omega))⟩
    obtain ⟨i, i1, i2, i3⟩ := tb_at h ht a0 ha
    refine s_at (by omega) (by omega) ⟨by decide, ?_⟩
    rw [i3, show (2 : Int32) = nI 2 from rfl, rem_nI (by omega) (by omega) (by omega)]
    have e := sg_pw h ht.2.2.2.1 i1
    rw [i2] at e
    rw [e] at hh
    by_cases c : i % 2 = 0
    · rw [if_pos c] at hh
      rw [c]
      exact ⟨fun z => absurd rfl z, fun _ => hh⟩
    · rw [if_neg c] at hh
      exact ⟨fun _ => hh, fun z => absurd z (nI_ne0 (by omega) (by omega))⟩
theorem pw_eq1 {q n g i e : Nat} (h : fl q n) (hg : gnr q n g) : pw q n (pw q n g i) e = 1 ↔ i * e % ((q + 1) ^ n - 1) = 0 := by
  have hs := fl_sz h
  rw [← pw_mul h hg.1, pw_mod h hg.1 hg.2.1]
  constructor
  · intro z
    exact hg.2.2.1 _ 0 (Nat.mod_lt _ (by omega)) (by omega) (by rw [z, pw_0 h])
  · intro z
    rw [z, pw_0 h]
theorem pw_units {q n a : Nat} (h : fl q n) (a0 : a ≠ 0) (ha : a < (q + 1) ^ n) : pw q n a ((q + 1) ^ n - 1) = 1 := by
  obtain ⟨g, hg⟩ := gnr_ex h
  obtain ⟨i, h1, h2⟩ := hg.2.2.2.2 a (by omega) ha
  rw [← h2]
  exact (pw_eq1 h hg).mpr (Nat.mul_mod_left _ _)
theorem s_turns {t : fcS} {q n k g a : Nat} (h : fl q n) (ht : tb t q n k g) (a0 : a ≠ 0) (ha : a < (q + 1) ^ n) {post : Int32 → fcS → Prop} (hh : ∀ e, 1 ≤ e → e < (q + 1) ^ n → pw q n a e = 1 → (∀ j, 1 ≤ j → j < e → pw q n a j ≠ 1) → post (nI e) t) : q_X2_turnsOf t k (nI a) post := by
  have hs := fl_sz h
  obtain ⟨i, i1, i2, i3⟩ := tb_at h ht a0 ha
  have key : ∀ d e, e + d = (q + 1) ^ n - 1 → 1 ≤ e → (∀ j, 1 ≤ j → j < e → pw q n a j ≠ 1) → q_X2_turnsOf_2 k post (d + 1) (nI a) (nI e) t := by
    intro d
    induction d with
    | zero =>
      intro e he e1 hj
      unfold q_X2_turnsOf_2
      rw [ht.2.1]
      have : e = (q + 1) ^ n - 1 := by omega
      refine ⟨fun _ => hh e e1 (by omega) (by rw [this]; exact pw_units h a0 ha) hj, fun c => absurd (nI_le (by omega) (by omega)) c⟩
    | succ d ih =>
      intro e he e1 hj
      unfold q_X2_turnsOf_2
      rw [ht.2.1]
      refine ⟨fun c => absurd ((nI_leI (by omega) (by omega)).mp c) (by omega), fun _ => ?_⟩
      refine s_at (by omega) (by omega) ⟨by rw [ht.2.1]; exact nI_ne0 (by omega) (by omega), ?_⟩
      have hie : i * e < 2 ^ 31 := by
        have : i * e ≤ 343 * 343 := Nat.mul_le_mul (by omega) (by omega)
        omega
      rw [i3, ht.2.1, pk_mul, rem_nI hie (by omega) (by omega)]
      have hlt : i * e % ((q + 1) ^ n - 1) < 2 ^ 31 := Nat.lt_of_le_of_lt (Nat.mod_le _ _) hie
      have hiff := pw_eq1 (i := i) (e := e) h ht.2.2.2.1
      rw [i2] at hiff
      refine ⟨fun c => hh e e1 (by omega) (hiff.mpr ((nI_eq (b := 0) hlt (by omega)).mp c)) hj, fun c x3 e3 => ?_⟩
      rw [e3, nI_1]
      refine ih (e + 1) (by omega) (by omega) (fun j j1 j2 => ?_)
      rcases Nat.lt_or_ge j e with w | w
      · exact hj j j1 w
      · have : j = e := by omega
        subst this
        exact fun z => c ((nI_eq (b := 0) hlt (by omega)).mpr (hiff.mp z))
  exact ⟨_, key ((q + 1) ^ n - 2) 1 (by omega) (Nat.le_refl 1) (fun j h1 h2 => by omega)⟩
/-- Horner's way: the places below k are still to come -/
noncomputable def hv (q n : Nat) (P : PS q) (x : Nat) : Nat → Nat → Nat
  | a, 0 => a
  | a, k + 1 => hv q n P x (ad q (ml q n a x) (P k).val) k
theorem hv_s (q n : Nat) (P : PS q) (x a k : Nat) : hv q n P x a (k + 1) = hv q n P x (ad q (ml q n a x) (P k).val) k := by rw [hv]
theorem pl1 {q n : Nat} (h : fl q n) (c : Fin (q + 1)) : c.val < (q + 1) ^ n := by
  have h1 := c.isLt
  have : (q + 1) ^ 1 ≤ (q + 1) ^ n := Nat.pow_le_pow_right (by omega) h.2.1
  rw [Nat.pow_one] at this
  omega
theorem hv_lt {q n : Nat} (h : fl q n) (P : PS q) (x : Nat) : ∀ k a, a < (q + 1) ^ n → hv q n P x a k < (q + 1) ^ n
  | 0, _, ha => ha
  | k + 1, a, _ => by
    rw [hv_s]
    exact hv_lt h P x k _ (ad_lt h.1 (fl_sz h).2.2 (ml_lt _ _ _ _) (pl1 h _)).1
theorem ad_zero (q b : Nat) (hb : b < (q + 1) ^ 18) : ad q 0 b = b := by
  unfold ad
  rw [pn_0]
  have : padd pz (pn q b) = pn q b := by
    funext i
    show (0 : Fin (q + 1)) + pn q b i = _
    grind
  rw [this, nu_pn hb]
theorem hv_top {q n : Nat} (h : fl q n) {P : PS q} (x : Nat) {k : Nat} (hk : P k = 0) : hv q n P x 0 (k + 1) = hv q n P x 0 k := by
  rw [hv_s, ml_zeroL h, hk]
  have e : ad q 0 ((0 : Fin (q + 1)).val) = 0 := ad_zero q 0 (Nat.pow_pos (by omega))
  rw [e]
/-- the value at x -/
noncomputable def vl (q n : Nat) (P : PS q) (x : Nat) : Nat := hv q n P x 0 7
theorem vl_lt {q n : Nat} (h : fl q n) (P : PS q) (x : Nat) : vl q n P x < (q + 1) ^ n := by
  unfold vl
  exact hv_lt h P x 7 0 (by have := fl_sz h; omega)
theorem hv_deg {q n : Nat} (h : fl q n) {P : PS q} (x : Nat) {d : Nat} (hd : dl P (d + 1)) : ∀ k, hv q n P x 0 (d + 1 + k) = hv q n P x 0 (d + 1)
  | 0 => rfl
  | k + 1 => by
    rw [show d + 1 + (k + 1) = d + 1 + k + 1 by omega, hv_top h x (hd _ (by omega))]
    exact hv_deg h x hd k
theorem s_val {t : fcS} {q n k g x d : Nat} (h : fl q n) (hp : rp t q) (ht : tb t q n k g) (hx : x < (q + 1) ^ n) {P : PS q} (hP : dl P 7) (hd : hd P d) {post : Int32 → fcS → Prop} (hh : post (nI (vl q n P x)) t) : q_X2_valueOf t k (Ni q P) (nI x) post := by
  have hs := fl_sz h
  have h7 := pw7 (m := 7) h.1 (by omega)
  have hd6 : d ≤ 6 := by rcases hd_lt hd hP with z | z <;> omega
  refine s_degS h.1 hp h7 hP hd ⟨d + 2, ?_⟩
  have key : ∀ k2 a, a < (q + 1) ^ n → k2 ≤ d + 1 → hv q n P x a k2 = vl q n P x → q_X2_valueOf_12 k post (k2 + 1) (Ni q P) (nI x) (nI a) (nI k2 + (-1)) t := by
    intro k2
    induction k2 with
    | zero =>
      intro a ha _ e
      unfold q_X2_valueOf_12
      refine ⟨fun _ => ?_, fun c => absurd (by decide) c⟩
      rw [hv] at e
      rw [e]; exact hh
    | succ k2 ih =>
      intro a ha hk e
      unfold q_X2_valueOf_12
      rw [pk_m1]
      refine ⟨fun c => absurd c (nI_pos (by omega)), fun _ => ?_⟩
      refine s_prod h ht ha hx (s_coefS h.1 hp h7 hP (by omega) (s_ad h.1 hp hs.2.2 (ml_lt _ _ _ _) (pl1 h _) ?_))
      intro x9 e9
      rw [e9]
      rw [hv_s] at e
      exact ih _ (ad_lt h.1 hs.2.2 (ml_lt _ _ _ _) (pl1 h _)).1 (by omega) e
  have := key (d + 1) 0 (by omega) (Nat.le_refl _) (by
    unfold vl
    have e := hv_deg h x hd.1 (6 - d)
    rw [show d + 1 + (6 - d) = 7 by omega] at e
    exact e.symm)
  rw [pk_m1] at this
  exact this
/-- the sum of THE SIGNS of the values below m -/
noncomputable def ssm (q n : Nat) (P : PS q) : Nat → Int32
  | 0 => 0
  | m + 1 => ssm q n P m + sg q n (vl q n P m)
theorem s_ssm {t : fcS} {q n k g d : Nat} (h : fl q n) (hp : rp t q) (ht : tb t q n k g) {P : PS q} (hP : dl P 7) (hd : hd P d) {post : Int32 → fcS → Prop} (hh : post (ssm q n P ((q + 1) ^ n)) t) : q_X2_signSum t k (Ni q P) post := by
  have hs := fl_sz h
  have key : ∀ c x, x + c = (q + 1) ^ n → q_X2_signSum_4 k post (c + 1) (Ni q P) (ssm q n P x) (nI x) t := by
    intro c
    induction c with
    | zero =>
      intro x e
      unfold q_X2_signSum_4
      rw [ht.1]
      have e : x = (q + 1) ^ n := by omega
      exact ⟨fun _ => by rw [e]; exact hh, fun c => absurd (nI_le (by omega) (by omega)) c⟩
    | succ c ih =>
      intro x e
      unfold q_X2_signSum_4
      rw [ht.1]
      refine ⟨fun c => absurd ((nI_leI (by omega) (by omega)).mp c) (by omega), fun _ => ?_⟩
      refine s_val h hp ht (by omega) hP hd (s_sgn h ht (vl_lt h P x) ?_)
      intro x5 e5 x6 e6
      rw [e5, e6, nI_1]
      exact ih (x + 1) (by omega)
  exact ⟨_, key ((q + 1) ^ n) 0 (by omega)⟩
/-- BEYOND, for the degree d -/
noncomputable def byd (q n : Nat) (P : PS q) (d : Nat) : Int32 := if d % 2 = 1 then 1 else if sg q n (P d).val = 1 then 2 else 0
theorem s_byd {t : fcS} {q n k g d : Nat} (h : fl q n) (hp : rp t q) (ht : tb t q n k g) {P : PS q} (hP : dl P 7) (hd : hd P d) {post : Int32 → fcS → Prop} (hh : post (byd q n P d) t) : q_X2_pointsBeyond t k (Ni q P) post := by
  have h7 := pw7 (m := 7) h.1 (by omega)
  have hd6 : d ≤ 6 := by rcases hd_lt hd hP with z | z <;> omega
  refine s_degS h.1 hp h7 hP hd ⟨by decide, ?_⟩
  rw [show (2 : Int32) = nI 2 from rfl, rem_nI (by omega) (by omega) (by omega)]
  unfold byd at hh
  by_cases c : d % 2 = 1
  · rw [if_pos c] at hh
    rw [c]
    exact ⟨fun z => absurd rfl z, fun _ => hh⟩
  · rw [if_neg c] at hh
    have c0 : d % 2 = 0 := by omega
    rw [c0]
    refine ⟨fun _ => s_leadS h.1 hp h7 hP hd (s_sgn h ht (pl1 h _) ⟨fun z => ?_, fun z => ?_⟩), fun z => absurd z (by decide)⟩
    · rw [if_neg z] at hh; exact hh
    · rw [if_pos z] at hh; exact hh
/-- COUNT -/
noncomputable def cnt (q n : Nat) (P : PS q) (d : Nat) : Int32 := nI ((q + 1) ^ n) + ssm q n P ((q + 1) ^ n) + byd q n P d
theorem s_pts {t : fcS} {q n k g d : Nat} (h : fl q n) (hp : rp t q) (ht : tb t q n k g) {P : PS q} (hP : dl P 7) (hd : hd P d) {post : Int32 → fcS → Prop} (hh : post (cnt q n P d) t) : q_X2_pointsOf t k (Ni q P) post := by
  refine s_ssm h hp ht hP hd (s_byd h hp ht hP hd ?_)
  rw [ht.1]; exact hh
