/-! the reference: what changes only w -/
def eqW (t t2 : fcS) : Prop := t2.1 = t.1 ∧ t2.2.2 = t.2.2 ∧ ∀ k, k ≠ 60 → fga t2 k = fga t k
theorem eqW_L {t t2 : fcS} {l : List Nat} (h : eqL t t2 l) : eqW t t2 := ⟨h.1, h.2.1, h.2.2.1⟩
theorem eqW_rf (t : fcS) : eqW t t := ⟨rfl, rfl, fun _ _ => rfl⟩
theorem eqW_tr {t t2 t3 : fcS} (h : eqW t t2) (h2 : eqW t2 t3) : eqW t t3 := ⟨h2.1.trans h.1, h2.2.1.trans h.2.1, fun k hk => (h2.2.2 k hk).trans (h.2.2 k hk)⟩
theorem eqW_gi {t t2 : fcS} (h : eqW t t2) (k j : Nat) : fgi t2 k j = fgi t k j := by unfold fgi; rw [h.1]
def RB (t : fcS) (q : Nat) : Prop := mp t q ∧ fgi t 53 2 = nI (nfd q) ∧ ∀ n, 1 ≤ n → n ≤ nfd q → fga t 54 n = nI ((q + 1) ^ n) ∧ fga t 55 n = nI (Mnu q n)
theorem RB_W {t t2 : fcS} {q : Nat} (h : RB t q) (e : eqW t t2) : RB t2 q := by
  unfold RB mp
  rw [eqW_gi e, eqW_gi e, e.2.2 54 (by omega), e.2.2 55 (by omega)]
  exact h
theorem m_in {t : fcS} {v lo hi : Int64} {post : Int32 → fcS → Prop} (h0 : v.toInt < lo.toInt ∨ hi.toInt < v.toInt → post 0 t) (h1 : lo.toInt ≤ v.toInt → v.toInt ≤ hi.toInt → post 1 t) : q_X5_in t v lo hi post := by
  have cl : ∀ x y : Int64, lg_cmp x y < 0 ↔ x.toInt < y.toInt := fun x y => by
    unfold lg_cmp
    rw [← Int64.lt_iff_toInt_lt]
    by_cases c : x > y
    · rw [if_pos c]
      refine ⟨fun z => absurd z (by decide), fun z => ?_⟩
      have c : y < x := c
      rw [Int64.lt_iff_toInt_lt] at c z
      omega
    · rw [if_neg c]
      by_cases c2 : x = y
      · rw [if_pos c2, c2]
        exact ⟨fun z => absurd z (by decide), fun z => by rw [Int64.lt_iff_toInt_lt] at z; omega⟩
      · rw [if_neg c2]
        refine ⟨fun _ => ?_, fun _ => by decide⟩
        have c : ¬ y < x := c
        rw [Int64.lt_iff_toInt_lt] at c ⊢
        have : x.toInt ≠ y.toInt := fun z => c2 (Int64.toInt_inj.mp z)
        omega
  have cg : ∀ x y : Int64, 0 < lg_cmp x y ↔ y.toInt < x.toInt := fun x y => by
    unfold lg_cmp
    by_cases c : x > y
    · rw [if_pos c]
      have c : y < x := c
      rw [Int64.lt_iff_toInt_lt] at c
      exact ⟨fun _ => c, fun _ => by decide⟩
    · rw [if_neg c]
      have c : ¬ y < x := c
      rw [Int64.lt_iff_toInt_lt] at c
      refine ⟨fun z => ?_, fun z => absurd z c⟩
      by_cases c2 : x = y
      · rw [if_pos c2] at z; exact absurd z (by decide)
      · rw [if_neg c2] at z; exact absurd z (by decide)
  unfold q_X5_in
  rw [cl, cg]
  refine ⟨fun c => h0 (Or.inl c), fun c => ⟨fun c2 => h0 (Or.inr c2), fun c2 => h1 (by omega) (by omega)⟩⟩
theorem ti_i (x : Int32) : (Int32.toInt64 x).toInt = x.toInt := Int32.toInt_toInt64 x
theorem ti_1 : (1 : Int64).toInt = 1 := by decide
theorem ti_0 : (0 : Int64).toInt = 0 := by decide
/-- is it a number 0 .. m - 1 ? -/
theorem ix_cases (x : Int32) {m : Nat} (hm : m < 2 ^ 31) : (x.toInt < 0 ∨ (m : Int) ≤ x.toInt) ∨ ∃ j, j < m ∧ x = nI j := by
  rcases pk_ix x hm with c | c | ⟨j, h1, h2⟩
  · left; left
    have := Int32.lt_iff_toInt_lt.mp c
    exact this
  · left; right
    have := Int32.le_iff_toInt_le.mp c
    rw [nI_toInt hm] at this
    exact this
  · exact Or.inr ⟨j, h1, h2⟩
theorem m_isField {t : fcS} {q : Nat} (hB : RB t q) (hq : isP q) {x : Int32} {post : Int32 → fcS → Prop} (h0 : (∀ n, fl q n → x ≠ nI n) → post 0 t) (h1 : ∀ n, fl q n → x = nI n → post 1 t) : q_X5_isField t x post := by
  obtain ⟨-, f1, f2⟩ := nfd_ok hq
  unfold q_X5_isField
  rw [hB.2.1]
  have hN : (Int32.toInt64 (nI (nfd q))).toInt = (nfd q : Int) := by rw [ti_i, nI_toInt (by omega)]
  refine m_in (fun c => ⟨Or.inl rfl, h0 (fun n hn e => ?_)⟩) (fun c1 c2 => ⟨Or.inr rfl, ?_⟩)
  · rw [hN, ti_i, ti_1, e, nI_toInt (by have := hn.2; omega)] at c
    have := hn.2
    omega
  · rw [ti_i, ti_1] at c1
    rw [hN, ti_i] at c2
    obtain ⟨n, hn⟩ : ∃ n : Nat, x.toInt = (n : Int) := ⟨x.toInt.toNat, by omega⟩
    have e : x = nI n := nI_inj2 (by omega) hn
    exact h1 n ⟨hq, by omega, by omega⟩ e
theorem m_isNumber {t : fcS} {q : Nat} (hB : RB t q) (hq : isP q) {x y : Int32} {post : Int32 → fcS → Prop} (h0 : (∀ n a, fl q n → x = nI n → a < (q + 1) ^ n → y ≠ nI a) → post 0 t) (h1 : ∀ n a, fl q n → x = nI n → a < (q + 1) ^ n → y = nI a → post 1 t) : q_X5_isNumber t x y post := by
  obtain ⟨-, f1, f2⟩ := nfd_ok hq
  refine m_isField hB hq (fun c => ⟨fun _ => h0 (fun n a hn e _ _ => c n hn e), fun z => absurd rfl z⟩) (fun n hn e => ⟨fun z => absurd z (by decide), fun _ => ?_⟩)
  have hs := fl_sz hn
  subst e
  refine ⟨vp_in_nI (by have := hn.2; omega) (by omega), ?_⟩
  rw [nI_clamp (by have := hn.2; omega), (hB.2.2 n hn.2.1 hn.2.2).1, show (1 : Int32) = nI 1 from rfl, pk_sub (by omega)]
  have hN : (Int32.toInt64 (nI ((q + 1) ^ n - 1))).toInt = (((q + 1) ^ n - 1 : Nat) : Int) := by rw [ti_i, nI_toInt (by omega)]
  refine m_in (fun c => ⟨fun _ => h0 (fun n2 a hn2 e2 ha e => ?_), fun z => absurd rfl z⟩) (fun c1 c2 => ⟨fun z => absurd z (by decide), fun _ => ?_⟩)
  · have en : n = n2 := (nI_eq (by have := hn.2; omega) (by have := hn2.2; omega)).mp e2
    subst en
    rw [hN, ti_i, ti_0, e, nI_toInt (by omega)] at c
    omega
  · rw [ti_i, ti_0] at c1
    rw [hN, ti_i] at c2
    obtain ⟨a, ha⟩ : ∃ a : Nat, y.toInt = (a : Int) := ⟨y.toInt.toNat, by omega⟩
    have e : y = nI a := nI_inj2 (by omega) ha
    exact h1 n a hn rfl (by omega) e
theorem m_sum {t : fcS} {q a b m : Nat} (hq : isP q) (hp : mp t q) (hm : (q + 1) ^ m < 2 ^ 30) (ha : a < (q + 1) ^ m) (hb : b < (q + 1) ^ m) {post : Int32 → fcS → Prop} (h : post (nI (ad q a b)) t) : q_X5_sum t (nI a) (nI b) post := by
  have hl := isP_lo hq
  have h18 := pow18 hl.1 hm
  have fin : ∀ i, i ≤ 18 → a / (q + 1) ^ i = 0 → b / (q + 1) ^ i = 0 → post (nI (nu q i (padd (pn q a) (pn q b)))) t := fun i hi e1 e2 => by
    have hpos : 0 < (q + 1) ^ i := Nat.pow_pos (by omega)
    have a1 : a < (q + 1) ^ i := by
      rcases Nat.lt_or_ge a ((q + 1) ^ i) with w | w
      · exact w
      · have := Nat.div_pos w hpos; omega
    have b1 : b < (q + 1) ^ i := by
      rcases Nat.lt_or_ge b ((q + 1) ^ i) with w | w
      · exact w
      · have := Nat.div_pos w hpos; omega
    rw [← nu_dl (dl_add (pn_dl a1) (pn_dl b1)) hi]; exact h
  have key : ∀ d i, i + d = m → q_X5_sum_11 post (d + 1) (nI (nu q i (padd (pn q a) (pn q b)))) (nI ((q + 1) ^ i)) (nI (a / (q + 1) ^ i)) (nI (b / (q + 1) ^ i)) t := by
    intro d
    induction d with
    | zero =>
      intro i e
      have e : i = m := by omega
      subst e
      unfold q_X5_sum_11
      have e1 : a / (q + 1) ^ i = 0 := Nat.div_eq_of_lt ha
      have e2 : b / (q + 1) ^ i = 0 := Nat.div_eq_of_lt hb
      have := fin i h18 e1 e2
      rw [e1, e2]
      exact ⟨fun c => absurd c (by decide), fun _ => ⟨fun _ => this, fun c => absurd (by decide) c⟩⟩
    | succ d ih =>
      intro i e
      have ha1 : a / (q + 1) ^ i < 2 ^ 31 := Nat.lt_of_le_of_lt (Nat.div_le_self _ _) (by omega)
      have hb1 : b / (q + 1) ^ i < 2 ^ 31 := Nat.lt_of_le_of_lt (Nat.div_le_self _ _) (by omega)
      have step : q_X5_sum_21 post (fun v3_ v4_ v5_ v6_ t_ => q_X5_sum_11 post (d + 1) v3_ v4_ v5_ v6_ t_) (nI (nu q i (padd (pn q a) (pn q b)))) (nI ((q + 1) ^ i)) (nI (a / (q + 1) ^ i)) (nI (b / (q + 1) ^ i)) t := by
        unfold q_X5_sum_21
        refine ⟨mp_ne hp hq, mp_ne hp hq, mp_ne hp hq, fun x1 e1 => ⟨mp_ne hp hq, fun x2 e2 => ⟨mp_ne hp hq, fun x3 e3 x4 e4 => ?_⟩⟩⟩
        have P : fgi t 53 1 = nI (q + 1) := hp
        rw [P] at e1 e2 e3 e4
        rw [rem_nI ha1 (by omega) (by omega), rem_nI hb1 (by omega) (by omega), nI_add, rem_nI (by have := Nat.mod_lt (a / (q + 1) ^ i) (show 0 < q + 1 by omega); have := Nat.mod_lt (b / (q + 1) ^ i) (show 0 < q + 1 by omega); omega) (by omega) (by omega), pk_mul, nI_add] at e1
        rw [pk_div ha1 (by omega) (by omega), Nat.div_div_eq_div_mul, ← Nat.pow_succ] at e2
        rw [pk_div hb1 (by omega) (by omega), Nat.div_div_eq_div_mul, ← Nat.pow_succ] at e3
        rw [pk_mul, ← Nat.pow_succ] at e4
        have e5 : nu q i (padd (pn q a) (pn q b)) + (q + 1) ^ i * ((a / (q + 1) ^ i % (q + 1) + b / (q + 1) ^ i % (q + 1)) % (q + 1)) = nu q (i + 1) (padd (pn q a) (pn q b)) := by
          rw [nu_succ, Nat.mul_comm]; rfl
        rw [e5] at e1
        rw [e1, e2, e3, e4]
        exact ih (i + 1) (by omega)
      unfold q_X5_sum_11
      refine ⟨fun _ => step, fun c => ⟨fun c2 => ?_, fun _ => step⟩⟩
      have z1 : a / (q + 1) ^ i = 0 := by
        rcases Nat.eq_zero_or_pos (a / (q + 1) ^ i) with w | w
        · exact w
        · exact absurd (show (0 : Int32) < _ from nI_lt (a := 0) w ha1) c
      have z2 : b / (q + 1) ^ i = 0 := by
        rcases Nat.eq_zero_or_pos (b / (q + 1) ^ i) with w | w
        · exact w
        · exact absurd c2 (nI_nle w hb1)
      exact fin i (by omega) z1 z2
  have := key m 0 (by omega)
  rw [Nat.pow_zero, Nat.div_one, Nat.div_one] at this
  exact ⟨_, this⟩
/-- F(1) multiplies by p -/
theorem ml_1 {q a b : Nat} (h : fl q 1) (ha : a < q + 1) (hb : b < q + 1) : ml q 1 a b = a * b % (q + 1) := by
  have hq := h.1
  have hl := isP_lo hq
  have hc : ∀ x, x < q + 1 → pn q x = pl_c (Fin.ofNat (q + 1) x) := fun x hx => by
    funext i
    apply Fin.ext
    rw [pn_val]
    show _ = (if i = 0 then Fin.ofNat (q + 1) x else 0 : Fin (q + 1)).val
    cases i with
    | zero => rw [if_pos rfl, Nat.pow_zero, Nat.div_one]; rfl
    | succ i =>
      rw [if_neg (by omega), Nat.div_eq_of_lt]
      · rfl
      · have : (q + 1) ^ 1 ≤ (q + 1) ^ (i + 1) := Nat.pow_le_pow_right (by omega) (by omega)
        rw [Nat.pow_one] at this; omega
  have e1 : pl_mul (pn q a) (pn q b) = pn q (a * b % (q + 1)) := by
    rw [hc a ha, hc b hb, hc (a * b % (q + 1)) (Nat.mod_lt _ (by omega)), pl_mul_c]
    funext i
    show (if i = 0 then Fin.ofNat (q + 1) a else 0) * Fin.ofNat (q + 1) b = if i = 0 then Fin.ofNat (q + 1) (a * b % (q + 1)) else 0
    by_cases c : i = 0
    · rw [if_pos c, if_pos c]
      apply Fin.ext
      show (a % (q + 1)) * (b % (q + 1)) % (q + 1) = a * b % (q + 1) % (q + 1)
      rw [← Nat.mul_mod, Nat.mod_mod]
    · rw [if_neg c, if_neg c]; grind
  have hlt : a * b % (q + 1) < (q + 1) ^ 1 := by rw [Nat.pow_one]; exact Nat.mod_lt _ (by omega)
  unfold ml fm
  rw [e1, (prem_small hq (fl_M h).1 (fl_M h).2.1 (pn_dl hlt)).2, nu_pn hlt]
theorem m_prod {t : fcS} {q n a b : Nat} (hB : RB t q) (h : fl q n) (ha : a < (q + 1) ^ n) (hb : b < (q + 1) ^ n) {post : Int32 → fcS → Prop} (hh : ∀ t2, eqW t t2 → post (nI (ml q n a b)) t2) : q_X5_product t (nI n) (nI a) (nI b) post := by
  have hs := fl_sz h
  have hq := h.1
  have hl := isP_lo hq
  obtain ⟨a1, a2, a3, a4, a5⟩ := fsz h.1 h.2.1 h.2.2
  unfold q_X5_product
  by_cases n1 : n = 1
  · subst n1
    refine ⟨fun c => absurd rfl c, fun _ => ⟨mp_ne hB.1 hq, ?_⟩⟩
    rw [show fgi t 53 1 = nI (q + 1) from hB.1, pk_mul]
    rw [Nat.pow_one] at ha hb
    have hab : a * b < 2 ^ 31 := by
      have : a * b ≤ 13 * 13 := Nat.mul_le_mul (by omega) (by omega)
      omega
    rw [rem_nI hab (by omega) (by omega), ← ml_1 h ha hb]
    exact hh t (eqW_rf t)
  · have h16 : ∀ x, x < 2 * (q + 1) ^ n → x < (q + 1) ^ 16 := fun x hx => by
      have e : (q + 1) ^ (n + 1) ≤ (q + 1) ^ 16 := Nat.pow_le_pow_right (by omega) (by omega)
      rw [Nat.pow_succ] at e
      have : (q + 1) ^ n * 3 ≤ (q + 1) ^ n * (q + 1) := Nat.mul_le_mul_left _ (by omega)
      omega
    refine ⟨fun _ => ?_, fun c => absurd ((nI_eq (b := 1) (by omega) (by omega)).mp c) n1⟩
    refine m_load hq hB.1 (a := 0) (by omega) (by omega) (h16 a (by omega)) (fun t1 e1 r1 => ?_)
    refine m_load hq (eqL_mp e1 hB.1) (a := 1) (by omega) (by omega) (h16 b (by omega)) (fun t2 e2 r2 => ?_)
    have e12 := eqL_tr e1 e2
    refine m_mul hq (eqL_mp e12 hB.1) (r := 2) (a := 0) (b := 1) (by omega) (by omega) (by omega) (by omega) (by omega) (eqL_row e2 (by simp) r1) r2 (pn_dl ha) (pn_dl hb) (by omega) (fun t3 e3 r3 => ?_)
    have e13 := eqL_tr e12 e3
    refine ⟨vp_in_nI (by omega) (by omega), ?_⟩
    rw [nI_clamp (by omega), e13.2.2.1 55 (by omega), (hB.2.2 n h.2.1 h.2.2).2]
    refine m_load hq (eqL_mp e13 hB.1) (a := 3) (by omega) (by omega) (h16 _ (by omega)) (fun t4 e4 r4 => ?_)
    have e14 := eqL_tr e13 e4
    refine m_div hq (eqL_mp e14 hB.1) (rq := 4) (rr := 5) (a := 2) (b := 3) (by omega) (by omega) (by omega) (by omega) (by omega) (by omega) (by omega) (by omega) (by omega) (eqL_row e4 (by simp) r3) r4 (fun z => (fl_M h).2.1 (congrFun z n)) (fun t5 e5 _ r5 => ?_)
    have e15 := eqL_tr e14 e5
    refine m_num hq (eqL_mp e15 hB.1) (a := 5) (by omega) hs.2.2 r5 (fm_dl hq (fl_M h) (pn_dl ha) (pn_dl hb)) ?_
    have := hh t5 (eqW_L e15)
    unfold ml at this
    rw [← Ni_dl hl.1 hs.2.2 (fm_dl hq (fl_M h) (pn_dl ha) (pn_dl hb))] at this
    exact this
theorem m_pow {t : fcS} {q n a e : Nat} (hB : RB t q) (h : fl q n) (ha : a < (q + 1) ^ n) (he : e < 2 ^ 31) {post : Int32 → fcS → Prop} (hh : ∀ t2, eqW t t2 → post (nI (pw q n a e)) t2) : q_X5_power t (nI n) (nI a) (nI e) post := by
  have hs := fl_sz h
  have key : ∀ k f v x (t1 : fcS), f < 2 ^ 31 → f < 2 ^ k → v < (q + 1) ^ n → x < (q + 1) ^ n → ml q n v (pw q n x f) = pw q n a e → eqW t t1 → q_X5_power_9 post (k + 1) (nI n) (nI v) (nI x) (nI f) t1 := by
    intro k
    induction k with
    | zero =>
      intro f v x t1 _ hf hv hx hE e1
      have hf : f < 1 := hf
      have : f = 0 := by omega
      subst this
      unfold q_X5_power_9
      rw [pw_0 h, ml_one h hv] at hE
      exact ⟨fun _ => by rw [hE]; exact hh t1 e1, fun c => absurd (by decide) c⟩
    | succ k ih =>
      intro f v x t1 hf31 hf hv hx hE e1
      unfold q_X5_power_9
      rcases Nat.eq_zero_or_pos f with w | w
      · subst w
        rw [pw_0 h, ml_one h hv] at hE
        exact ⟨fun _ => by rw [hE]; exact hh t1 e1, fun c => absurd (by decide) c⟩
      · refine ⟨fun c => absurd c (nI_nle w hf31), fun _ => ⟨by decide, ?_⟩⟩
        rw [show (2 : Int32) = nI 2 from rfl, rem_nI hf31 (by omega) (by omega)]
        have step : ∀ (v2 : Nat) (t2 : fcS), v2 < (q + 1) ^ n → eqW t t2 → ml q n v2 (pw q n x (2 * (f / 2))) = pw q n a e → q_X5_power_36 post (fun v1_ v4_ v5_ v6_ t_ => q_X5_power_9 post (k + 1) v1_ v4_ v5_ v6_ t_) (nI n) (nI x) (nI f) (nI v2) t2 := fun v2 t2 hv2 e2 hE2 => by
          unfold q_X5_power_36
          refine ⟨by decide, fun x1 ex1 => ?_⟩
          rw [show (2 : Int32) = nI 2 from rfl, pk_div hf31 (by omega) (by omega)] at ex1
          subst ex1
          have hk2 : f / 2 < 2 ^ k := by rw [Nat.pow_succ] at hf; omega
          refine ⟨fun c => ?_, fun c => ?_⟩
          · have z : f / 2 = 0 := by
              rcases Nat.eq_zero_or_pos (f / 2) with y | y
              · exact y
              · exact absurd c (nI_nle y (by omega))
            refine ih (f / 2) v2 x t2 (by omega) hk2 hv2 hx ?_ e2
            rw [z] at hE2 ⊢
            exact hE2
          · refine m_prod (RB_W hB e2) h hx hx (fun t3 e3 => ?_)
            refine ih (f / 2) v2 _ t3 (by omega) hk2 hv2 (ml_lt _ _ _ _) ?_ (eqW_tr e2 e3)
            rw [← hE2, pw_mul h hx]
            congr 2
            have : pw q n x 2 = ml q n x x := by rw [pw_s h hx 1, pw_1 h hx]
            exact this.symm
        refine ⟨fun c => ?_, fun c => ?_⟩
        · have hodd : f % 2 = 0 := by
            have : f % 2 ≠ 1 := fun z => c (by rw [z]; rfl)
            omega
          refine step v t1 hv e1 ?_
          rw [show 2 * (f / 2) = f by omega]; exact hE
        · have hodd : f % 2 = 1 := (nI_eq (b := 1) (by omega) (by omega)).mp c
          refine m_prod (RB_W hB e1) h hv hx (fun t2 e2 => ?_)
          refine step _ t2 (ml_lt _ _ _ _) (eqW_tr e1 e2) ?_
          rw [← hE, ml_assoc h hv hx (pw_lt _ _ _ _)]
          congr 1
          have e5 : f = 1 + 2 * (f / 2) := by omega
          have e6 : pw q n x f = pw q n x (1 + 2 * (f / 2)) := congrArg _ e5
          rw [e6, pw_add h hx 1, pw_1 h hx]
  have := key 31 e 1 a t he he (by omega) ha (by rw [ml_comm, ml_one h (pw_lt _ _ _ _)]) (eqW_rf t)
  exact ⟨_, this⟩
