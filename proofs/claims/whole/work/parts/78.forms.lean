/-! forms -/
def sameK (t t2 : fcS) : Prop := t2.1 = t.1 ∧ (∀ k, k ≠ 4 → fga t2 k = fga t k) ∧ t2.2.2.1 = t.2.2.1 ∧ ∀ k, k ≠ 5 → fgl t2 k = fgl t k
theorem sameK_rf (t : fcS) : sameK t t := ⟨rfl, fun _ _ => rfl, rfl, fun _ _ => rfl⟩
theorem sameK_tr {t t2 t3 : fcS} (h : sameK t t2) (h2 : sameK t2 t3) : sameK t t3 := ⟨h2.1.trans h.1, fun k hk => (h2.2.1 k hk).trans (h.2.1 k hk), h2.2.2.1.trans h.2.2.1, fun k hk => (h2.2.2.2 k hk).trans (h.2.2.2 k hk)⟩
theorem sameK_R {t t2 : fcS} (h : eqR t t2 4) : sameK t t2 := ⟨h.1, h.2.2, by rw [h.2.1], fun k _ => by unfold fgl; rw [h.2.1]⟩
theorem sameK_gi {t t2 : fcS} (h : sameK t t2) (k j : Nat) : fgi t2 k j = fgi t k j := by unfold fgi; rw [h.1]
theorem sameK_fsl (t : fcS) (i : Nat) (v : Int64) : sameK t (fsl t 5 i v) := ⟨rfl, fun _ _ => rfl, rfl, fun k hk => by
  show (if k = 5 then _ else t.2.2.2 k) = t.2.2.2 k
  rw [if_neg hk]⟩
theorem tb_K {t t2 : fcS} {q n k g : Nat} (h : tb t q n k g) (hk : 6 ≤ k) (e : sameK t t2) : tb t2 q n k g := by
  unfold tb at *
  rw [sameK_gi e, sameK_gi e, sameK_gi e, e.2.1 (k + 1) (by omega), e.2.1 (k + 2) (by omega)]
  exact h
theorem ST_K {q C : Nat} {cv : Nat → Nat × Nat × Nat} {K : Int32} {T : Int64} {t t2 : fcS} (h : ST q C cv K T t) (e : sameK t t2) : ST q C cv K T t2 := by
  obtain ⟨hV, ⟨hB, hF, hC⟩, hR⟩ := h
  have ei := sameK_gi e
  have ej : ∀ k j, fgj t2 k j = fgj t k j := fun k j => by unfold fgj; rw [e.2.2.1]
  refine ⟨hV, ⟨?_, ?_, ?_⟩, IR_same hR (fun k hk => ⟨fun j => ei k j, e.2.1 k (by omega), fun j => ej k j, e.2.2.2 k (by omega)⟩)⟩
  · unfold CB rp at *
    rw [ei, ei, ei, ei, ei, ej]; exact hB
  · intro i hi
    have := hF i hi
    refine ⟨by rw [ei]; exact this.1, fun q2 hf he => ?_⟩
    rw [ei] at he
    obtain ⟨g, hg⟩ := this.2 q2 hf he
    exact ⟨g, tab_gi hg (fun j => ei _ j) (e.2.1 _ (by omega)) (e.2.1 _ (by omega))⟩
  · intro j hj
    have := hC j hj
    unfold CD CS CL at *
    rw [ei, ei, ei, ei, ei, ei, ei, ei, ei, ei, e.2.1 (21 + 4 * j + 1) (by omega), e.2.1 (21 + 4 * j + 3) (by omega)]
    exact this
def eqV (t t2 : fcS) : Prop := eqU t t2 ∧ fgi t2 53 15 = fgi t 53 15 ∧ fga t2 61 = fga t 61
theorem eqV_rf (t : fcS) : eqV t t := ⟨eqU_rf t, rfl, rfl⟩
theorem eqV_tr {t t2 t3 : fcS} (h : eqV t t2) (h2 : eqV t2 t3) : eqV t t3 := ⟨eqU_tr h.1 h2.1, h2.2.1.trans h.2.1, h2.2.2.trans h.2.2⟩
theorem eqV_W {t t2 : fcS} (h : eqW t t2) : eqV t t2 := ⟨eqU_W h, eqW_gi h 53 15, h.2.2 61 (by omega)⟩
theorem eqV_fsa (t : fcS) {r : Nat} (hr : r = 60 ∨ r = 64 ∨ r = 65) (i : Nat) (v : Int32) : eqV t (fsa t r i v) := ⟨eqU_fsa t (by omega) i v, rfl, ga_fsaN t (by omega) i v⟩
theorem RS_V {t t2 : fcS} {q : Nat} (h : RS t q) (e : eqV t t2) : RS t2 q := by
  unfold RS at *
  rw [e.2.1, e.2.2]; exact h
theorem ST_V {q C : Nat} {cv : Nat → Nat × Nat × Nat} {K : Int32} {T : Int64} {t t2 : fcS} (h : ST q C cv K T t) (e : eqV t t2) : ST q C cv K T t2 := ST_U h e.1 (RS_V h.2.2.2.1 e)
/-- a row is filled -/
theorem s_fill {t : fcS} {r n : Nat} (hn : n < 2 ^ 31) {v : Int32} {post : fcS → Prop} (h : ∀ t2, eqR t t2 r → (∀ i, i < n → fga t2 r i = v) → post t2) : q_J7_fill_53178 t r n v post := by
  intro x1 e1
  have e1 : x1 = nI n := e1
  subst e1
  have key : ∀ d i (t1 : fcS), i + d = n → eqR t t1 r → (∀ j, j < i → fga t1 r j = v) → q_J7_fill_53178_5 r n post (d + 1) v (nI i) (nI n) t1 := by
    intro d
    induction d with
    | zero =>
      intro i t1 e e1 hj
      unfold q_J7_fill_53178_5
      exact ⟨fun _ => h t1 e1 (fun j hj2 => hj j (by omega)), fun c => absurd (nI_le (by omega) (by omega)) c⟩
    | succ d ih =>
      intro i t1 e e1 hj
      unfold q_J7_fill_53178_5
      refine ⟨fun c => absurd ((nI_leI (by omega) (by omega)).mp c) (by omega), fun _ => ⟨vp_in_nI (by omega) hn, fun t2 e2 x3 e3 => ?_⟩⟩
      rw [nI_clamp (by omega)] at e2
      subst e2
      rw [e3, nI_1]
      refine ih (i + 1) _ (by omega) (eqR_fsa e1 _ _) (fun j hj2 => ?_)
      rw [ga_fsaG]
      by_cases c : j = i
      · rw [if_pos c]
      · rw [if_neg c]; exact hj j (by omega)
  exact ⟨n + 1, key n 0 t (by omega) (eqR_rf t r) (fun j hj => by omega)⟩
/-- the difference, of numbers -/
def sb (q a b : Nat) : Nat := nu q 18 (psub (pn q a) (pn q b))
theorem sb_lt {q a b m : Nat} (hq : isP q) (hm : (q + 1) ^ m < 2 ^ 30) (ha : a < (q + 1) ^ m) (hb : b < (q + 1) ^ m) : sb q a b < (q + 1) ^ m ∧ pn q (sb q a b) = psub (pn q a) (pn q b) ∧ nI (sb q a b) = Ni q (psub (pn q a) (pn q b)) := by
  have hd : dl (psub (pn q a) (pn q b)) m := dl_sub (pn_dl ha) (pn_dl hb)
  unfold sb
  have e := nu_dl hd (pow18 (isP_lo hq).1 hm)
  refine ⟨by rw [e]; exact nu_lt _ _, by rw [e, pn_nu hd], rfl⟩
theorem s_sb {t : fcS} {q a b m : Nat} (hq : isP q) (hp : rp t q) (hm : (q + 1) ^ m < 2 ^ 30) (ha : a < (q + 1) ^ m) (hb : b < (q + 1) ^ m) {post : Int32 → fcS → Prop} (h : post (nI (sb q a b)) t) : q_X3_difference t (nI a) (nI b) post := by
  rw [Ni_pn hq hm ha, Ni_pn hq hm hb]
  refine s_dif hq hp hm (pn_dl ha) (pn_dl hb) ?_
  rw [← (sb_lt hq hm ha hb).2.2]; exact h
/-- c and p - 1 times z -/
theorem ad_neg {q n c z : Nat} (h : fl q n) (hc : c < (q + 1) ^ n) (hz : z < (q + 1) ^ n) : ad q c (ml q n q z) = sb q c z := by
  have hs := fl_sz h
  have hl := isP_lo h.1
  have hq1 : q < (q + 1) ^ n := by
    have : (q + 1) ^ 1 ≤ (q + 1) ^ n := Nat.pow_le_pow_right (by omega) h.2.1
    rw [Nat.pow_one] at this; omega
  have e1 : pl_mul (pn q q) (pn q z) = psub pz (pn q z) := by
    have e0 : pn q q = pl_c (-1) := by
      funext i
      apply Fin.ext
      rw [pn_val]
      show _ = (if i = 0 then (-1 : Fin (q + 1)) else 0).val
      cases i with
      | zero =>
        rw [if_pos rfl, Nat.pow_zero, Nat.div_one]
        show q % (q + 1) = (q + 1 - 1 % (q + 1)) % (q + 1)
        rw [Nat.mod_eq_of_lt (show 1 < q + 1 by omega)]
        rfl
      | succ i =>
        rw [if_neg (by omega), Nat.div_eq_of_lt]
        · rfl
        · have : (q + 1) ^ 1 ≤ (q + 1) ^ (i + 1) := Nat.pow_le_pow_right (by omega) (by omega)
          rw [Nat.pow_one] at this; omega
    rw [e0, pl_mul_comm, pl_mul_c]
    funext i
    show pn q z i * -1 = (0 : Fin (q + 1)) - pn q z i
    grind
  have hd : dl (psub pz (pn q z)) n := dl_sub (fun _ _ => rfl) (pn_dl hz)
  have e2 : pn q (ml q n q z) = psub pz (pn q z) := by
    rw [pn_ml h hq1 hz]
    unfold fm
    rw [e1, (prem_small h.1 (fl_M h).1 (fl_M h).2.1 hd).2]
  unfold ad sb
  rw [e2]
  congr 1
  funext i
  show pn q c i + ((0 : Fin (q + 1)) - pn q z i) = pn q c i - pn q z i
  grind
theorem sb_swap {q n a b c : Nat} (h : fl q n) (ha : a < (q + 1) ^ n) (hb : b < (q + 1) ^ n) (hc : c < (q + 1) ^ n) : a = sb q c b ↔ b = sb q c a := by
  have hs := fl_sz h
  have key : ∀ a b, a < (q + 1) ^ n → b < (q + 1) ^ n → a = sb q c b → b = sb q c a := fun a b ha hb e => by
    have e1 := (sb_lt h.1 hs.2.2 hc hb).2.1
    rw [← e] at e1
    have e2 := (sb_lt h.1 hs.2.2 hc ha)
    refine pn_inj hb e2.1 ?_
    rw [e2.2.1, e1]
    funext i
    show pn q b i = pn q c i - (pn q c i - pn q b i)
    grind
  exact ⟨key a b ha hb, key b a hb ha⟩
theorem sm_swap (R : Nat → Nat → Bool) (m : Nat) : ∀ n, fb_sm (fun y => fb_ct (fun x => R x y) m) n = fb_sm (fun x => fb_ct (fun y => R x y) n) m
  | 0 => by
    have : ∀ m, fb_sm (fun x => fb_ct (fun y => R x y) 0) m = 0 := fun m => by
      induction m with
      | zero => rfl
      | succ m ih => rw [fb_sm_succ, ih]; rfl
    rw [this]; rfl
  | n + 1 => by
    rw [fb_sm_succ, sm_swap R m n]
    have : ∀ m, fb_sm (fun x => fb_ct (fun y => R x y) n) m + fb_ct (fun x => R x n) m = fb_sm (fun x => fb_ct (fun y => R x y) (n + 1)) m := fun m => by
      induction m with
      | zero => rfl
      | succ m ih => rw [fb_sm_succ, fb_sm_succ, fb_ct_succ, ← ih, fb_ct_succ]; omega
    exact this m
noncomputable def ax (q n a x : Nat) : Nat := ml q n a (ml q n x x)
theorem ct_eq {f : Nat → Nat} {v m : Nat} : fb_ct (fun x => f x == v) (m + 1) = if f m = v then fb_ct (fun x => f x == v) m + 1 else fb_ct (fun x => f x == v) m := by
  rw [fb_ct_succ]
  by_cases c : f m = v
  · rw [if_pos c, if_pos (by rw [c]; exact beq_self_eq_true v)]
  · rw [if_neg c, if_neg (by simp [c])]; rfl
theorem ct_small (p : Nat → Bool) {n : Nat} (hn : n ≤ 343) : fb_ct p n < 344 := by have := fb_ct_le p n; omega
theorem c_frm2 {t : fcS} {q n k g b c : Nat} (h : fl q n) (hp : rp t q) (ht : tb t q n k g) (hb : b < (q + 1) ^ n) (hc : c < (q + 1) ^ n) {W : Nat → Nat} (hW : ∀ v, v < (q + 1) ^ n → fga t 4 v = nI (W v)) {post : Int32 → fcS → Prop} (hh : post (nI (fb_sm (fun y => W (sb q c (ax q n b y))) ((q + 1) ^ n))) t) : ∀ d y, y + d = (q + 1) ^ n → q_X4_forms_112 k post (d + 1) (nI b) (nI c) (nI (fb_sm (fun y => W (sb q c (ax q n b y))) y)) (nI y) t := by
  have hs := fl_sz h
  intro d
  induction d with
  | zero =>
    intro y e
    have e : y = (q + 1) ^ n := by omega
    subst e
    unfold q_X4_forms_112
    rw [ht.1]
    exact ⟨fun _ => hh, fun c => absurd (nI_le (by omega) (by omega)) c⟩
  | succ d ih =>
    intro y e
    have hy : y < (q + 1) ^ n := by omega
    unfold q_X4_forms_112
    rw [ht.1]
    refine ⟨fun c => absurd ((nI_leI (by omega) (by omega)).mp c) (by omega), fun _ => ?_⟩
    refine s_prod h ht hy hy (s_prod h ht hb (ml_lt _ _ _ _) (s_sb h.1 hp hs.2.2 hc (ml_lt _ _ _ _) ?_))
    have hlt := (sb_lt h.1 hs.2.2 hc (ml_lt q n b (ml q n y y))).1
    refine s_at (by omega) (by omega) (fun x18 e18 x19 e19 => ?_)
    rw [hW _ hlt, nI_add] at e18
    rw [e18, e19, nI_1]
    exact ih (y + 1) (by omega)
theorem c_frm1 {t : fcS} {q n k g a b c : Nat} (h : fl q n) (hk : 6 ≤ k) (hp : rp t q) (ht : tb t q n k g) (ha : a < (q + 1) ^ n) (hb : b < (q + 1) ^ n) (hc : c < (q + 1) ^ n) {post : Int32 → fcS → Prop} (hh : ∀ t2, eqR t t2 4 → post (nI (fb_sm (fun y => fb_ct (fun x => ax q n a x == sb q c (ax q n b y)) ((q + 1) ^ n)) ((q + 1) ^ n))) t2) : ∀ d x (t1 : fcS), x + d = (q + 1) ^ n → eqR t t1 4 → (∀ v, v < (q + 1) ^ n → fga t1 4 v = nI (fb_ct (fun x => ax q n a x == v) x)) → q_X4_forms_53 k post (d + 1) (nI a) (nI b) (nI c) (nI x) t1 := by
  have hs := fl_sz h
  intro d
  induction d with
  | zero =>
    intro x t1 e e1 hW
    have e : x = (q + 1) ^ n := by omega
    subst e
    have ht1 := tb_K ht hk (sameK_R e1)
    unfold q_X4_forms_53
    rw [ht1.1]
    refine ⟨fun _ => ⟨(q + 1) ^ n + 1, ?_⟩, fun c => absurd (nI_le (by omega) (by omega)) c⟩
    exact c_frm2 (W := fun v => fb_ct (fun x => ax q n a x == v) ((q + 1) ^ n)) h (eqR_rp e1 hp) ht1 hb hc hW (hh t1 e1) ((q + 1) ^ n) 0 (by omega)
  | succ d ih =>
    intro x t1 e e1 hW
    have hx : x < (q + 1) ^ n := by omega
    have ht1 := tb_K ht hk (sameK_R e1)
    unfold q_X4_forms_53
    rw [ht1.1]
    refine ⟨fun c => absurd ((nI_leI (by omega) (by omega)).mp c) (by omega), fun _ => ?_⟩
    refine s_prod h ht1 hx hx (s_prod h ht1 ha (ml_lt _ _ _ _) ?_)
    have hlt := ml_lt q n a (ml q n x x)
    refine s_at (by omega) (by omega) (s_put (by omega) (by omega) (fun x27 e27 => ?_))
    rw [e27, nI_1]
    refine ih (x + 1) _ (by omega) (eqR_fsa e1 _ _) (fun v hv => ?_)
    rw [ga_fsaG, ct_eq]
    by_cases c : v = ml q n a (ml q n x x)
    · rw [if_pos c, if_pos (show ax q n a x = v from c.symm), hW _ hlt, nI_1, c]
    · rw [if_neg c, if_neg (show ¬ ax q n a x = v from fun z => c z.symm), hW v hv]
theorem m_frm3 {t : fcS} {q n a c : Nat} (h : fl q n) (hB : RB t q) (ha : a < (q + 1) ^ n) (hc : c < (q + 1) ^ n) {W : Nat → Nat} (hW : ∀ v, v < (q + 1) ^ n → fga t 64 v = nI (W v)) {post : Int32 → fcS → Prop} (hh : ∀ t2, eqV t t2 → post (nI (fb_sm (fun x => W (sb q c (ax q n a x))) ((q + 1) ^ n))) t2) : ∀ d x (t1 : fcS), x + d = (q + 1) ^ n → eqW t t1 → q_X5_forms_113 post (d + 1) (nI n) (nI a) (nI c) (nI (fb_sm (fun x => W (sb q c (ax q n a x))) x)) (nI x) t1 := by
  have hs := fl_sz h
  have hl := isP_lo h.1
  have hn5 : n < 6 := by obtain ⟨-, f1, f2⟩ := nfd_ok h.1; have := h.2; omega
  have hq1 : q < (q + 1) ^ n := by
    have : (q + 1) ^ 1 ≤ (q + 1) ^ n := Nat.pow_le_pow_right (by omega) h.2.1
    rw [Nat.pow_one] at this; omega
  intro d
  induction d with
  | zero =>
    intro x t1 e e1
    have e : x = (q + 1) ^ n := by omega
    subst e
    have hB1 := RB_W hB e1
    unfold q_X5_forms_113
    rw [nI_clamp (by omega), (hB1.2.2 n h.2.1 h.2.2).1]
    exact ⟨vp_in_nI hn5 (by omega), fun _ => hh t1 (eqV_W e1), fun c => absurd (nI_le (by omega) (by omega)) c⟩
  | succ d ih =>
    intro x t1 e e1
    have hx : x < (q + 1) ^ n := by omega
    have hB1 := RB_W hB e1
    unfold q_X5_forms_113
    rw [nI_clamp (by omega), (hB1.2.2 n h.2.1 h.2.2).1]
    refine ⟨vp_in_nI hn5 (by omega), fun c => absurd ((nI_leI (by omega) (by omega)).mp c) (by omega), fun _ => ?_⟩
    refine m_prod hB1 h hx hx (fun t2 e2 => ?_)
    have e12 := eqW_tr e1 e2
    refine m_prod (RB_W hB e12) h ha (ml_lt _ _ _ _) (fun t3 e3 => ?_)
    have e13 := eqW_tr e12 e3
    have hB3 := RB_W hB e13
    rw [show fgi t3 53 1 = nI (q + 1) from hB3.1, show (1 : Int32) = nI 1 from rfl, pk_sub (by omega), show q + 1 - 1 = q by omega]
    refine m_prod hB3 h hq1 (ml_lt _ _ _ _) (fun t4 e4 => ?_)
    have e14 := eqW_tr e13 e4
    have hB4 := RB_W hB e14
    refine m_sum h.1 hB4.1 hs.2.2 hc (ml_lt _ _ _ _) ?_
    rw [ad_neg h hc (ml_lt _ _ _ _)]
    have hlt := (sb_lt h.1 hs.2.2 hc (ml_lt q n a (ml q n x x))).1
    refine ⟨vp_in_nI (by omega) (by omega), fun x16 e16 x17 e17 => ?_⟩
    rw [nI_clamp (by omega), e14.2.2 64 (by omega), hW _ hlt, nI_add] at e16
    rw [e16, e17, nI_add]
    exact ih (x + 1) t4 (by omega) e14
theorem m_frm2 {t : fcS} {q n a b c : Nat} (h : fl q n) (hB : RB t q) (ha : a < (q + 1) ^ n) (hb : b < (q + 1) ^ n) (hc : c < (q + 1) ^ n) {post : Int32 → fcS → Prop} (hh : ∀ t2, eqV t t2 → post (nI (fb_sm (fun x => fb_ct (fun y => ax q n b y == sb q c (ax q n a x)) ((q + 1) ^ n)) ((q + 1) ^ n))) t2) : ∀ d y (t1 : fcS), y + d = (q + 1) ^ n → eqV t t1 → (∀ v, v < (q + 1) ^ n → fga t1 64 v = nI (fb_ct (fun y => ax q n b y == v) y)) → q_X5_forms_66 post (d + 1) (nI n) (nI a) (nI b) (nI c) (nI y) t1 := by
  have hs := fl_sz h
  have hn5 : n < 6 := by obtain ⟨-, f1, f2⟩ := nfd_ok h.1; have := h.2; omega
  intro d
  induction d with
  | zero =>
    intro y t1 e e1 hW
    have e : y = (q + 1) ^ n := by omega
    subst e
    have hB1 := RB_U hB e1.1
    unfold q_X5_forms_66
    rw [nI_clamp (by omega), (hB1.2.2 n h.2.1 h.2.2).1]
    refine ⟨vp_in_nI hn5 (by omega), fun _ => ⟨(q + 1) ^ n + 1, ?_⟩, fun c => absurd (nI_le (by omega) (by omega)) c⟩
    exact m_frm3 (W := fun v => fb_ct (fun y => ax q n b y == v) ((q + 1) ^ n)) h hB1 ha hc hW (fun t2 e2 => hh t2 (eqV_tr e1 e2)) ((q + 1) ^ n) 0 t1 (by omega) (eqW_rf t1)
  | succ d ih =>
    intro y t1 e e1 hW
    have hy : y < (q + 1) ^ n := by omega
    have hB1 := RB_U hB e1.1
    unfold q_X5_forms_66
    rw [nI_clamp (by omega), (hB1.2.2 n h.2.1 h.2.2).1]
    refine ⟨vp_in_nI hn5 (by omega), fun c => absurd ((nI_leI (by omega) (by omega)).mp c) (by omega), fun _ => ?_⟩
    refine m_prod hB1 h hy hy (fun t2 e2 => ?_)
    refine m_prod (RB_W hB1 e2) h hb (ml_lt _ _ _ _) (fun t3 e3 => ?_)
    have e13 := eqW_tr e2 e3
    have hlt := ml_lt q n b (ml q n y y)
    refine ⟨vp_in_nI (by omega) (by omega), vp_in_nI (by omega) (by omega), fun t22 e22 x23 e23 => ?_⟩
    rw [nI_clamp (by omega)] at e22
    subst e22
    rw [e23, nI_1]
    refine ih (y + 1) _ (by omega) (eqV_tr e1 (eqV_tr (eqV_W e13) (eqV_fsa t3 (by omega) _ _))) (fun v hv => ?_)
    rw [ga_fsaG, ct_eq, e13.2.2 64 (by omega)]
    by_cases c : v = ml q n b (ml q n y y)
    · rw [if_pos c, if_pos (show ax q n b y = v from c.symm), hW _ hlt, nI_1, c]
    · rw [if_neg c, if_neg (show ¬ ax q n b y = v from fun z => c z.symm), hW v hv]
theorem m_frm1 {t : fcS} {q n a b c : Nat} (h : fl q n) (hB : RB t q) (ha : a < (q + 1) ^ n) (hb : b < (q + 1) ^ n) (hc : c < (q + 1) ^ n) {post : Int32 → fcS → Prop} (hh : ∀ t2, eqV t t2 → post (nI (fb_sm (fun x => fb_ct (fun y => ax q n b y == sb q c (ax q n a x)) ((q + 1) ^ n)) ((q + 1) ^ n))) t2) : ∀ d v (t1 : fcS), v + d = (q + 1) ^ n → eqV t t1 → (∀ x, x < v → fga t1 64 x = 0) → q_X5_forms_38 post (d + 1) (nI n) (nI a) (nI b) (nI c) (nI v) t1 := by
  have hs := fl_sz h
  have hn5 : n < 6 := by obtain ⟨-, f1, f2⟩ := nfd_ok h.1; have := h.2; omega
  intro d
  induction d with
  | zero =>
    intro v t1 e e1 hx
    have hB1 := RB_U hB e1.1
    unfold q_X5_forms_38
    rw [nI_clamp (by omega), (hB1.2.2 n h.2.1 h.2.2).1]
    refine ⟨vp_in_nI hn5 (by omega), fun _ => ⟨(q + 1) ^ n + 1, ?_⟩, fun c => absurd (nI_le (by omega) (by omega)) c⟩
    exact m_frm2 h hB1 ha hb hc (fun t2 e2 => hh t2 (eqV_tr e1 e2)) ((q + 1) ^ n) 0 t1 (by omega) (eqV_rf t1) (fun x hx1 => hx x (by omega))
  | succ d ih =>
    intro v t1 e e1 hx
    have hB1 := RB_U hB e1.1
    unfold q_X5_forms_38
    rw [nI_clamp (by omega), (hB1.2.2 n h.2.1 h.2.2).1]
    refine ⟨vp_in_nI hn5 (by omega), fun c => absurd ((nI_leI (by omega) (by omega)).mp c) (by omega), fun _ => ⟨vp_in_nI (by omega) (by omega), fun t24 e24 x25 e25 => ?_⟩⟩
    rw [nI_clamp (by omega)] at e24
    subst e24
    rw [e25, nI_1]
    refine ih (v + 1) _ (by omega) (eqV_tr e1 (eqV_fsa t1 (by omega) _ _)) (fun x hx1 => ?_)
    rw [ga_fsaG]
    by_cases c : x = v
    · rw [if_pos c]
    · rw [if_neg c]; exact hx x (by omega)
theorem ok_11 : fOK_11 Inv := by
  intro t x y z w ⟨q, C, cv, K, T, hS⟩
  refine c_field hS (fun hno => ⟨fun _ t1 e1 => ?_, fun i e => (nomatch e)⟩) (fun n g t2 hf e _ hS2 ht hk => ⟨fun e => (nomatch e), fun i2 e2 => ?_⟩)
  · subst e1
    have h0 := ST_0 hS
    exact m_num0 h0.2.2.1 h0.1.1 hno ⟨fun _ => ⟨rfl, ST_Inv h0⟩, fun z => absurd rfl z⟩
  · obtain rfl := Option.some.inj e2
    subst e
    have h0 := ST_0 hS2
    have hs := fl_sz hf
    refine ⟨hk, s_has hf ht (fun c => ⟨fun _ t1 e1 => ?_, fun z => absurd rfl z⟩) (fun a ha ea => ⟨fun z => absurd z i0, fun _ => s_has hf ht (fun c => ⟨fun _ t1 e1 => ?_, fun z => absurd rfl z⟩) (fun b hb eb => ⟨fun z => absurd z i0, fun _ => s_has hf ht (fun c => ⟨fun z => absurd rfl z, fun _ t1 e1 => ?_⟩) (fun c hc ec => ⟨fun _ => ?_, fun z => absurd z i0⟩)⟩)⟩)⟩
    · subst e1
      exact m_num1 h0.2.2.1 hf c ⟨fun _ => ⟨rfl, ST_Inv h0⟩, fun z => absurd rfl z⟩
    · subst e1 ea
      exact m_num2 h0.2.2.1 hf ha ⟨fun z => absurd z i0, fun _ => m_num1 h0.2.2.1 hf c ⟨fun _ => ⟨rfl, ST_Inv h0⟩, fun z => absurd rfl z⟩⟩
    · subst e1 ea eb
      exact m_num2 h0.2.2.1 hf ha ⟨fun z => absurd z i0, fun _ => m_num2 h0.2.2.1 hf hb ⟨fun z => absurd z i0, fun _ => m_num1 h0.2.2.1 hf c ⟨fun z => absurd rfl z, fun _ => ⟨rfl, ST_Inv h0⟩⟩⟩⟩
    · subst ea eb ec
      refine s_fill (by omega) (fun t3 e3 hz => ⟨(q + 1) ^ n + 1, ?_⟩)
      have hk6 : 6 ≤ 6 + 3 * (n - 1) := by omega
      refine c_frm1 hf hk6 (eqR_rp e3 hS2.2.1.1.1) (tb_K ht hk6 (sameK_R e3)) ha hb hc (fun t4 e4 t5 e5 => ?_) ((q + 1) ^ n) 0 t3 (by omega) (eqR_rf _ _) (fun v hv => hz v (by omega))
      subst e5
      have hS4 := ST_0 (ST_K hS2 (sameK_R (eqR_tr e3 e4)))
      refine m_num2 hS4.2.2.1 hf ha ⟨fun z => absurd z i0, fun _ => m_num2 hS4.2.2.1 hf hb ⟨fun z => absurd z i0, fun _ => m_num2 hS4.2.2.1 hf hc ⟨fun _ => ⟨(q + 1) ^ n + 1, ?_⟩, fun z => absurd z i0⟩⟩⟩
      refine m_frm1 hf hS4.2.2.1 ha hb hc (fun t6 e6 => ⟨?_, ST_Inv (ST_V hS4 e6)⟩) ((q + 1) ^ n) 0 _ (by omega) (eqV_rf _) (fun x hx => by omega)
      rw [sm_swap]
      congr 1
      refine fb_sm_cong (fun x hx => fb_ct_cong (fun y hy => ?_))
      have := sb_swap hf (ml_lt q n a (ml q n x x)) (ml_lt q n b (ml q n y y)) hc
      rw [Bool.eq_iff_iff, beq_iff_eq, beq_iff_eq]
      exact this
