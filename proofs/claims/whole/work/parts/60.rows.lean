/-! the reference's rows: row a of w holds the polynomial f -/
def rwI {q : Nat} (t : fcS) (a : Nat) (f : PS q) : Prop := dl f 16 ∧ ∀ i, i < 16 → fga t 60 (16 * a + i) = nI (f i).val
def eqL (t t2 : fcS) (l : List Nat) : Prop := t2.1 = t.1 ∧ t2.2.2 = t.2.2 ∧ (∀ k, k ≠ 60 → fga t2 k = fga t k) ∧ ∀ a, a ∉ l → ∀ i, i < 16 → fga t2 60 (16 * a + i) = fga t 60 (16 * a + i)
def mp (t : fcS) (q : Nat) : Prop := fgi t 53 1 = nI (q + 1)
theorem eqL_rf (t : fcS) (l : List Nat) : eqL t t l := ⟨rfl, rfl, fun _ _ => rfl, fun _ _ _ _ => rfl⟩
theorem eqL_tr {t t2 t3 : fcS} {l l2 : List Nat} (h : eqL t t2 l) (h2 : eqL t2 t3 l2) : eqL t t3 (l ++ l2) :=
  ⟨h2.1.trans h.1, h2.2.1.trans h.2.1, fun k hk => (h2.2.2.1 k hk).trans (h.2.2.1 k hk), fun a ha i hi => (h2.2.2.2 a (fun z => ha (List.mem_append_right _ z)) i hi).trans (h.2.2.2 a (fun z => ha (List.mem_append_left _ z)) i hi)⟩
theorem eqL_mono {t t2 : fcS} {l l2 : List Nat} (h : eqL t t2 l) (hl : ∀ a, a ∈ l → a ∈ l2) : eqL t t2 l2 :=
  ⟨h.1, h.2.1, h.2.2.1, fun a ha i hi => h.2.2.2 a (fun z => ha (hl a z)) i hi⟩
theorem eqL_gi {t t2 : fcS} {l : List Nat} (h : eqL t t2 l) (k j : Nat) : fgi t2 k j = fgi t k j := by unfold fgi; rw [h.1]
theorem eqL_mp {t t2 : fcS} {l : List Nat} {q : Nat} (h : eqL t t2 l) (hp : mp t q) : mp t2 q := by unfold mp; rw [eqL_gi h]; exact hp
theorem eqL_row {t t2 : fcS} {l : List Nat} {q a : Nat} {f : PS q} (h : eqL t t2 l) (ha : a ∉ l) (hr : rwI t a f) : rwI t2 a f :=
  ⟨hr.1, fun i hi => (h.2.2.2 a ha i hi).trans (hr.2 i hi)⟩
theorem mp_ne {t : fcS} {q : Nat} (h : mp t q) (hq : isP q) : ¬ (fgi t 53 1 : Int32) = 0 := by
  have := isP_lo hq
  rw [show fgi t 53 1 = nI (q + 1) from h]; exact nI_ne0 (by omega) (by omega)
theorem ga_fsa (t : fcS) (k : Nat) (v : Int32) (j : Nat) : fga (fsa t 60 k v) 60 j = if j = k then v else fga t 60 j := by
  show (if (60 : Nat) = 60 then upd (t.2.1 60) k v else t.2.1 60) j = _
  rw [if_pos rfl]; rfl
theorem eqL_fsa {t t2 : fcS} {l : List Nat} (h : eqL t t2 l) {a i : Nat} (ha : a ∈ l) (hi : i < 16) (v : Int32) : eqL t (fsa t2 60 (16 * a + i) v) l := by
  refine ⟨h.1, h.2.1, fun k hk => ?_, fun b hb j hj => ?_⟩
  · rw [← h.2.2.1 k hk]
    show (if k = 60 then upd (t2.2.1 60) (16 * a + i) v else t2.2.1 k) = t2.2.1 k
    rw [if_neg hk]
  · rw [ga_fsa, if_neg, h.2.2.2 b hb j hj]
    intro e
    have : a = b := by omega
    subst this
    exact hb ha
theorem ix {a i : Nat} (ha : a < 40) (hi : i < 16) : (16 : Int32) * nI a + nI i = nI (16 * a + i) ∧ vp_in (nI (16 * a + i)) 640 ∧ (nI (16 * a + i)).toNatClampNeg = 16 * a + i := by
  refine ⟨?_, vp_in_nI (by omega) (by omega), nI_clamp (by omega)⟩
  rw [show (16 : Int32) = nI 16 from rfl, pk_mul, nI_add]
theorem c16 {i : Nat} (h : i < 16) : ¬ (16 : Int32) ≤ nI i := fun c => absurd ((nI_leI (a := 16) (by omega) (by omega)).mp c) (by omega)
/-- a loop over one row: places below i are done -/
theorem rwI_done {q : Nat} {t : fcS} {a : Nat} {f : PS q} (hf : dl f 16) (h : ∀ j, j < 16 → fga t 60 (16 * a + j) = nI (f j).val) : rwI t a f := ⟨hf, h⟩
theorem l_clear {q : Nat} {t : fcS} {a : Nat} (ha : a < 40) {post : fcS → Prop} (h : ∀ t2, eqL t t2 [a] → rwI t2 a (pz : PS q) → post t2) : ∀ d i (t1 : fcS), i + d = 16 → eqL t t1 [a] → (∀ j, j < i → fga t1 60 (16 * a + j) = nI 0) → q_X5_clear_2 post (d + 1) (nI a) (nI i) t1
  | 0, i, t1, e, h1, h2 => by
    unfold q_X5_clear_2
    have e : i = 16 := by omega
    subst e
    exact ⟨fun _ => h t1 h1 ⟨fun _ _ => rfl, fun j hj => h2 j hj⟩, fun c => absurd (by decide) c⟩
  | d + 1, i, t1, e, h1, h2 => by
    unfold q_X5_clear_2
    obtain ⟨x1, x2, x3⟩ := ix (i := i) ha (by omega)
    refine ⟨fun c => absurd c (c16 (by omega)), fun _ => ?_⟩
    rw [x1, x3]
    refine ⟨x2, fun t2 e2 x e3 => ?_⟩
    rw [e3, nI_1]
    subst e2
    refine l_clear ha h d (i + 1) _ (by omega) (eqL_fsa h1 (by simp) (by omega) _) (fun j hj => ?_)
    rw [ga_fsa]
    rcases Nat.lt_or_ge j i with w | w
    · rw [if_neg (by omega)]; exact h2 j w
    · rw [if_pos (by omega)]; rfl
theorem m_clear {q : Nat} {t : fcS} {a : Nat} (ha : a < 40) {post : fcS → Prop} (h : ∀ t2, eqL t t2 [a] → rwI t2 a (pz : PS q) → post t2) : q_X5_clear t (nI a) post :=
  ⟨17, l_clear ha h 16 0 t (by omega) (eqL_rf t _) (fun j hj => by omega)⟩
theorem l_load {q : Nat} (hq : isP q) {t : fcS} (hp : mp t q) {a x : Nat} (ha : a < 40) (hx : x < 2 ^ 31) (hx2 : x < (q + 1) ^ 16) {post : fcS → Prop} (h : ∀ t2, eqL t t2 [a] → rwI t2 a (pn q x) → post t2) : ∀ d i (t1 : fcS), i + d = 16 → eqL t t1 [a] → (∀ j, j < i → fga t1 60 (16 * a + j) = nI (pn q x j).val) → q_X5_load_5 post (d + 1) (nI a) (nI (x / (q + 1) ^ i)) (nI i) t1
  | 0, i, t1, e, h1, h2 => by
    unfold q_X5_load_5
    have e : i = 16 := by omega
    subst e
    exact ⟨fun _ => h t1 h1 ⟨pn_dl hx2, fun j hj => h2 j hj⟩, fun c => absurd (by decide) c⟩
  | d + 1, i, t1, e, h1, h2 => by
    have hl := isP_lo hq
    unfold q_X5_load_5
    obtain ⟨x1, x2, x3⟩ := ix (i := i) ha (by omega)
    have hlt : x / (q + 1) ^ i < 2 ^ 31 := Nat.lt_of_le_of_lt (Nat.div_le_self _ _) hx
    refine ⟨fun c => absurd c (c16 (by omega)), fun _ => ⟨mp_ne (eqL_mp h1 hp) hq, ?_⟩⟩
    rw [x1, x3]
    refine ⟨x2, fun t2 e2 => ?_⟩
    have hp1 : fgi t1 53 1 = nI (q + 1) := eqL_mp h1 hp
    rw [hp1, rem_nI hlt (by omega) (by omega)] at e2
    have h3 : eqL t t2 [a] := by rw [e2]; exact eqL_fsa h1 (by simp) (by omega) _
    have hp2 : fgi t2 53 1 = nI (q + 1) := eqL_mp h3 hp
    refine ⟨mp_ne (eqL_mp h3 hp) hq, fun y ey z ez => ?_⟩
    rw [hp2, pk_div hlt (by omega) (by omega), Nat.div_div_eq_div_mul, ← Nat.pow_succ] at ey
    rw [ey, ez, nI_1]
    refine l_load hq hp ha hx hx2 h d (i + 1) _ (by omega) h3 (fun j hj => ?_)
    rw [e2, ga_fsa]
    rcases Nat.lt_or_ge j i with w | w
    · rw [if_neg (by omega)]; exact h2 j w
    · have : j = i := by omega
      subst this
      rw [if_pos rfl, pn_val]
theorem m_load {q : Nat} (hq : isP q) {t : fcS} (hp : mp t q) {a x : Nat} (ha : a < 40) (hx : x < 2 ^ 31) (hx2 : x < (q + 1) ^ 16) {post : fcS → Prop} (h : ∀ t2, eqL t t2 [a] → rwI t2 a (pn q x) → post t2) : q_X5_load t (nI a) (nI x) post := by
  have := l_load hq hp ha hx hx2 h 16 0 t (by omega) (eqL_rf t _) (fun j hj => by omega)
  rw [Nat.pow_zero, Nat.div_one] at this
  exact ⟨17, this⟩
theorem l_copy {q : Nat} {t : fcS} {a b : Nat} (ha : a < 40) (hb : b < 40) (hab : a ≠ b) {f : PS q} (hr : rwI t b f) {post : fcS → Prop} (h : ∀ t2, eqL t t2 [a] → rwI t2 a f → post t2) : ∀ d i (t1 : fcS), i + d = 16 → eqL t t1 [a] → (∀ j, j < i → fga t1 60 (16 * a + j) = nI (f j).val) → q_X5_copy_2 post (d + 1) (nI a) (nI b) (nI i) t1
  | 0, i, t1, e, h1, h2 => by
    unfold q_X5_copy_2
    have e : i = 16 := by omega
    subst e
    exact ⟨fun _ => h t1 h1 ⟨hr.1, fun j hj => h2 j hj⟩, fun c => absurd (by decide) c⟩
  | d + 1, i, t1, e, h1, h2 => by
    unfold q_X5_copy_2
    obtain ⟨x1, x2, x3⟩ := ix (i := i) ha (by omega)
    obtain ⟨y1, y2, y3⟩ := ix (i := i) hb (by omega)
    refine ⟨fun c => absurd c (c16 (by omega)), fun _ => ?_⟩
    rw [x1, y1, x3, y3]
    refine ⟨y2, x2, fun t2 e2 x e3 => ?_⟩
    rw [e3, nI_1]
    have hv : fga t1 60 (16 * b + i) = nI (f i).val := (eqL_row h1 (by simp; exact fun z => hab z.symm) hr).2 i (by omega)
    rw [hv] at e2
    subst e2
    refine l_copy ha hb hab hr h d (i + 1) _ (by omega) (eqL_fsa h1 (by simp) (by omega) _) (fun j hj => ?_)
    rw [ga_fsa]
    rcases Nat.lt_or_ge j i with w | w
    · rw [if_neg (by omega)]; exact h2 j w
    · have : j = i := by omega
      subst this
      rw [if_pos rfl]
theorem m_copy {q : Nat} {t : fcS} {a b : Nat} (ha : a < 40) (hb : b < 40) (hab : a ≠ b) {f : PS q} (hr : rwI t b f) {post : fcS → Prop} (h : ∀ t2, eqL t t2 [a] → rwI t2 a f → post t2) : q_X5_copy t (nI a) (nI b) post :=
  ⟨17, l_copy ha hb hab hr h 16 0 t (by omega) (eqL_rf t _) (fun j hj => by omega)⟩
/-- the degree; -1 of 0 -/
theorem l_mdeg {q : Nat} (hq : isP q) {t : fcS} {a : Nat} (ha : a < 40) {f : PS q} (hr : rwI t a f) {post : Int32 → fcS → Prop} (h0 : f = pz → post (-1) t) (h : ∀ n, n < 16 → dl f (n + 1) → f n ≠ 0 → post (nI n) t) : ∀ k, k ≤ 16 → dl f k → q_X5_degree_3 post (k + 1) (nI a) (nI k + (-1)) t
  | 0, _, hk => by
    unfold q_X5_degree_3
    exact ⟨fun _ => h0 (dl_zero hk), fun c => absurd (by decide) c⟩
  | k + 1, hk16, hk => by
    have hl := isP_lo hq
    unfold q_X5_degree_3
    rw [pk_m1]
    obtain ⟨x1, x2, x3⟩ := ix (i := k) ha (by omega)
    refine ⟨fun c => absurd c (nI_pos (by omega)), fun _ => ?_⟩
    rw [x1, x3, hr.2 k (by omega)]
    have hlt := (f k).isLt
    refine ⟨x2, fun c => ?_, fun c x e => ?_⟩
    · refine h k (by omega) hk (fun z => c ?_)
      rw [z]; rfl
    · have hz : f k = 0 := by
        apply Fin.ext
        rcases Nat.eq_zero_or_pos (f k).val with w | w
        · exact w
        · exact absurd c (nI_ne0 w (by omega))
      rw [e]
      exact l_mdeg hq ha hr h0 h k (by omega) (fun i hi => by
        rcases Nat.lt_or_ge k i with w | w
        · exact hk i (by omega)
        · rw [show i = k by omega]; exact hz)
theorem m_deg {q : Nat} (hq : isP q) {t : fcS} {a : Nat} (ha : a < 40) {f : PS q} (hr : rwI t a f) {post : Int32 → fcS → Prop} (h0 : f = pz → post (-1) t) (h : ∀ n, n < 16 → dl f (n + 1) → f n ≠ 0 → post (nI n) t) : q_X5_degree t (nI a) post := by
  have := l_mdeg hq ha hr h0 h 16 (Nat.le_refl _) hr.1
  exact ⟨17, this⟩
theorem m_left {q : Nat} (hq : isP q) {t : fcS} (hp : mp t q) {z : Int32} {c : Fin (q + 1)} (h1 : -2000000 ≤ z.toInt) (h2 : z.toInt ≤ 2000000) (hc : z.toInt % (q + 1 : Nat) = c.val) {post : Int32 → fcS → Prop} (h : post (nI c.val) t) : q_X5_left t z post := by
  have hl := isP_lo hq
  have hpz : fgi t 53 1 = nI (q + 1) := hp
  refine ⟨mp_ne hp hq, fun x1 e1 => ?_⟩
  rw [hpz] at e1 ⊢
  have hP : (nI (q + 1)).toInt = ((q + 1 : Nat) : Int) := nI_toInt (by omega)
  obtain ⟨a1, a2, a3⟩ := irm_int hq h1 h2
  rw [← e1] at a1 a2 a3
  have hcl := c.isLt
  have a4 : (z.toInt - z.toInt.tdiv ((q + 1 : Nat) : Int) * ((q + 1 : Nat) : Int)) % ((q + 1 : Nat) : Int) = c.val := by
    rw [Int.sub_mul_emod_self_right]; exact hc
  rw [← a1] at a4
  refine ⟨fun c0 => ?_, fun c0 => ?_⟩
  · have c1 : (0 : Int) ≤ x1.toInt := (Int32.le_iff_toInt_le).mp c0
    rw [Int.emod_eq_of_lt c1 a3] at a4
    rw [nI_inj2 (by omega) a4]; exact h
  · have c1 : x1.toInt < 0 := by
      rcases Int.lt_or_le x1.toInt 0 with w | w
      · exact w
      · exact absurd ((Int32.le_iff_toInt_le (x := 0) (y := x1)).mpr w) c0
    have e2 : (x1 + nI (q + 1)).toInt = x1.toInt + ((q + 1 : Nat) : Int) := by
      rw [fb_addI, hP] <;> rw [hP] <;> omega
    have a5 : x1.toInt + ((q + 1 : Nat) : Int) = c.val := by
      rw [← a4, ← Int.add_emod_right, Int.emod_eq_of_lt (by omega) (by omega)]
    rw [nI_inj2 (by omega) (e2.trans a5)]; exact h
theorem l_num {q : Nat} (hq : isP q) {t : fcS} (hp : mp t q) {a : Nat} (ha : a < 40) {f : PS q} {m : Nat} (hm : (q + 1) ^ m < 2 ^ 30) (hr : rwI t a f) (hf : dl f m) {post : Int32 → fcS → Prop} (h : post (Ni q f) t) : ∀ k, k ≤ 16 → q_X5_number_5 post (k + 1) (nI a) (nI (nu q (16 - k) (fun j => f (k + j)))) (nI k + (-1)) t := by
  have hl := isP_lo hq
  have h18 := pow18 hl.1 hm
  intro k
  induction k with
  | zero =>
    intro _
    unfold q_X5_number_5
    have e : nI (nu q (16 - 0) (fun j => f (0 + j))) = Ni q f := by
      unfold Ni
      rw [nu_dl hr.1 (show 16 ≤ 18 by omega)]
      have e1 : nu q (16 - 0) (fun j => f (0 + j)) = nu q 16 f := nu_cong (fun j _ => by rw [Nat.zero_add])
      rw [e1]
    rw [e]
    exact ⟨fun _ => h, fun c => absurd (by decide) c⟩
  | succ k ih =>
    intro hk
    unfold q_X5_number_5
    rw [pk_m1]
    obtain ⟨x1, x2, x3⟩ := ix (i := k) ha (by omega)
    refine ⟨fun c => absurd c (nI_pos (by omega)), fun _ => ?_⟩
    rw [x1, x3, hr.2 k (by omega), show fgi t 53 1 = nI (q + 1) from hp]
    refine ⟨x2, fun y ey z ez => ?_⟩
    rw [pk_mul, nI_add] at ey
    have e : (q + 1) * nu q (16 - (k + 1)) (fun j => f (k + 1 + j)) + (f k).val = nu q (16 - k) (fun j => f (k + j)) := by
      rw [show 16 - k = (16 - (k + 1)) + 1 by omega]
      show _ = (f (k + 0)).val + (q + 1) * nu q (16 - (k + 1)) (fun i => f (k + (i + 1)))
      rw [Nat.add_comm]
      have : nu q (16 - (k + 1)) (fun j => f (k + 1 + j)) = nu q (16 - (k + 1)) (fun i => f (k + (i + 1))) := nu_cong (fun j _ => by
        show f (k + 1 + j) = f (k + (j + 1))
        rw [show k + 1 + j = k + (j + 1) by omega])
      rw [this]; rfl
    rw [e] at ey
    rw [ey, ez]
    exact ih (by omega)
theorem m_num {q : Nat} (hq : isP q) {t : fcS} (hp : mp t q) {a : Nat} (ha : a < 40) {f : PS q} {m : Nat} (hm : (q + 1) ^ m < 2 ^ 30) (hr : rwI t a f) (hf : dl f m) {post : Int32 → fcS → Prop} (h : post (Ni q f) t) : q_X5_number t (nI a) post :=
  ⟨17, l_num hq hp ha hm hr hf h 16 (Nat.le_refl _)⟩
theorem fin_emod {q : Nat} (x y : Fin (q + 1)) (c : Fin (q + 1)) : ((x.val : Int) + (c.val : Int) * (y.val : Int)) % ((q + 1 : Nat) : Int) = ((x + y * c : Fin (q + 1)).val : Int) := by
  rw [Fin.val_add, Fin.val_mul]
  have : (x.val : Int) + (c.val : Int) * (y.val : Int) = ((x.val + y.val * c.val : Nat) : Int) := by
    rw [Int.natCast_add, Int.natCast_mul, Int.mul_comm]
  rw [this, ← Int.natCast_emod, Nat.add_mod_mod]
theorem l_join {q : Nat} (hq : isP q) {t : fcS} (hp : mp t q) {a b d : Nat} (ha : a < 40) (hb : b < 40) (hd : d < 40) (hab : a ≠ b) (had : a ≠ d) {f g : PS q} (c : Fin (q + 1)) (hf : rwI t b f) (hg : rwI t d g) {post : fcS → Prop} (h : ∀ t2, eqL t t2 [a] → rwI t2 a (padd f (pscl g c)) → post t2) : ∀ k i (t1 : fcS), i + k = 16 → eqL t t1 [a] → (∀ j, j < i → fga t1 60 (16 * a + j) = nI (padd f (pscl g c) j).val) → q_X5_join_3 post (k + 1) (nI a) (nI b) (nI d) (nI c.val) (nI i) t1
  | 0, i, t1, e, h1, h2 => by
    unfold q_X5_join_3
    have e : i = 16 := by omega
    subst e
    exact ⟨fun _ => h t1 h1 ⟨dl_add hf.1 (dl_scl hg.1 c), fun j hj => h2 j hj⟩, fun c => absurd (by decide) c⟩
  | k + 1, i, t1, e, h1, h2 => by
    have hl := isP_lo hq
    unfold q_X5_join_3
    obtain ⟨x1, x2, x3⟩ := ix (i := i) ha (by omega)
    obtain ⟨y1, y2, y3⟩ := ix (i := i) hb (by omega)
    obtain ⟨z1, z2, z3⟩ := ix (i := i) hd (by omega)
    refine ⟨fun c => absurd c (c16 (by omega)), fun _ => ?_⟩
    rw [x1, y1, z1, x3, y3, z3]
    have hv : fga t1 60 (16 * b + i) = nI (f i).val := (eqL_row h1 (by simp; exact fun z => hab z.symm) hf).2 i (by omega)
    have hw : fga t1 60 (16 * d + i) = nI (g i).val := (eqL_row h1 (by simp; exact fun z => had z.symm) hg).2 i (by omega)
    rw [hv, hw]
    have l1 := (f i).isLt
    have l2 := (g i).isLt
    have l3 := c.isLt
    have l4 : c.val * (g i).val ≤ 12 * 12 := Nat.mul_le_mul (by omega) (by omega)
    refine ⟨y2, z2, ?_⟩
    have ez : (nI (f i).val + nI c.val * nI (g i).val).toInt = ((f i).val : Int) + (c.val : Int) * ((g i).val : Int) := by
      rw [pk_mul, nI_add, nI_toInt (by omega), Int.natCast_add, Int.natCast_mul]
    have eb : ((c.val * (g i).val : Nat) : Int) = (c.val : Int) * ((g i).val : Int) := Int.natCast_mul _ _
    refine m_left (c := f i + g i * c) hq (eqL_mp h1 hp) (by rw [ez]; omega) (by rw [ez]; omega) (by rw [ez]; exact fin_emod _ _ _) ?_
    refine ⟨x2, fun t2 e2 x e3 => ?_⟩
    rw [e3, nI_1]
    subst e2
    refine l_join hq hp ha hb hd hab had c hf hg h k (i + 1) _ (by omega) (eqL_fsa h1 (by simp) (by omega) _) (fun j hj => ?_)
    rw [ga_fsa]
    rcases Nat.lt_or_ge j i with w | w
    · rw [if_neg (by omega)]; exact h2 j w
    · have : j = i := by omega
      subst this
      rw [if_pos rfl]; rfl
theorem m_join {q : Nat} (hq : isP q) {t : fcS} (hp : mp t q) {a b d : Nat} (ha : a < 40) (hb : b < 40) (hd : d < 40) (hab : a ≠ b) (had : a ≠ d) {f g : PS q} (c : Fin (q + 1)) (hf : rwI t b f) (hg : rwI t d g) {post : fcS → Prop} (h : ∀ t2, eqL t t2 [a] → rwI t2 a (padd f (pscl g c)) → post t2) : q_X5_join t (nI a) (nI b) (nI d) (nI c.val) post :=
  ⟨17, l_join hq hp ha hb hd hab had c hf hg h 16 0 t (by omega) (eqL_rf t _) (fun j hj => by omega)⟩
theorem l_mscl {q : Nat} (hq : isP q) {t : fcS} (hp : mp t q) {a : Nat} (ha : a < 40) {f : PS q} (c : Fin (q + 1)) (hf : rwI t a f) {post : fcS → Prop} (h : ∀ t2, eqL t t2 [a] → rwI t2 a (pscl f c) → post t2) : ∀ k i (t1 : fcS), i + k = 16 → eqL t t1 [a] → (∀ j, j < i → fga t1 60 (16 * a + j) = nI (pscl f c j).val) → (∀ j, i ≤ j → j < 16 → fga t1 60 (16 * a + j) = nI (f j).val) → q_X5_scale_2 post (k + 1) (nI a) (nI c.val) (nI i) t1
  | 0, i, t1, e, h1, h2, h3 => by
    unfold q_X5_scale_2
    have e : i = 16 := by omega
    subst e
    exact ⟨fun _ => h t1 h1 ⟨dl_scl hf.1 c, fun j hj => h2 j hj⟩, fun c => absurd (by decide) c⟩
  | k + 1, i, t1, e, h1, h2, h3 => by
    have hl := isP_lo hq
    unfold q_X5_scale_2
    obtain ⟨x1, x2, x3⟩ := ix (i := i) ha (by omega)
    refine ⟨fun c => absurd c (c16 (by omega)), fun _ => ?_⟩
    rw [x1, x3, h3 i (Nat.le_refl i) (by omega), show fgi t1 53 1 = nI (q + 1) from eqL_mp h1 hp, mul_rem hq]
    refine ⟨x2, ?_, x2, fun t2 e2 x e3 => ?_⟩
    · exact nI_ne0 (by omega) (by omega)
    · rw [e3, nI_1]
      subst e2
      refine l_mscl hq hp ha c hf h k (i + 1) _ (by omega) (eqL_fsa h1 (by simp) (by omega) _) (fun j hj => ?_) (fun j hj hj2 => ?_)
      · rw [ga_fsa]
        rcases Nat.lt_or_ge j i with w | w
        · rw [if_neg (by omega)]; exact h2 j w
        · have : j = i := by omega
          subst this
          rw [if_pos rfl]; rfl
      · rw [ga_fsa, if_neg (by omega)]
        exact h3 j (by omega) hj2
theorem m_scl {q : Nat} (hq : isP q) {t : fcS} (hp : mp t q) {a : Nat} (ha : a < 40) {f : PS q} (c : Fin (q + 1)) (hf : rwI t a f) {post : fcS → Prop} (h : ∀ t2, eqL t t2 [a] → rwI t2 a (pscl f c) → post t2) : q_X5_scale t (nI a) (nI c.val) post :=
  ⟨17, l_mscl hq hp ha c hf h 16 0 t (by omega) (eqL_rf t _) (fun j hj => by omega) (fun j _ hj => hf.2 j hj)⟩
