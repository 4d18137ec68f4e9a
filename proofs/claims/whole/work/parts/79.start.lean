/-! the start: p becomes another one -/
theorem CF_fit {t t2 : fcS} {q i : Nat} (h2 : CF t) (hi : i < 5) (hq : isP q) {g : PS q} (e : eqF t t2 (6 + 3 * i)) (ht : tab t2 q (i + 1) (6 + 3 * i) g) : CF t2 := by
  have eg : ∀ a j, a ≠ 6 + 3 * i → fgi t2 a j = fgi t a j := fun a j ha => e.2.1 a j ha
  have ea : ∀ a, a ≠ 6 + 3 * i + 1 → a ≠ 6 + 3 * i + 2 → fga t2 a = fga t a := fun a ha hb => e.2.2.2 a ha hb
  intro i2 hi2
  by_cases c : i2 = i
  · subst c
    refine ⟨by rw [e.2.2.1]; exact (h2 i2 hi2).1, fun q2 hf he => ?_⟩
    rw [ht.1] at he
    have := nI_p_inj hq hf.1 he
    subst this
    exact ⟨g, ht⟩
  · have := h2 i2 hi2
    refine ⟨by rw [eg _ _ (by omega)]; exact this.1, fun q2 hf he => ?_⟩
    rw [eg _ _ (by omega)] at he
    obtain ⟨g2, hg2⟩ := this.2 q2 hf he
    exact ⟨g2, tab_gi hg2 (fun j => eg _ j (by omega)) (ea _ (by omega) (by omega)) (ea _ (by omega) (by omega))⟩
theorem fl_1 {q : Nat} (hq : isP q) : fl q 1 := ⟨hq, Nat.le_refl 1, by obtain ⟨-, f1, f2⟩ := nfd_ok hq; omega⟩
theorem s_field1 {t : fcS} {q : Nat} (hq : isP q) (hp : rp t q) (h5 : fgi t 0 5 = nI (nfd q)) (hF : CF t) {post : Option Nat → fcS → Prop} (h1 : ∀ g t2, eqF t t2 6 → CF t2 → tb t2 q 1 6 g → post (some 6) t2) : q_X4_fieldAt t 1 post := by
  obtain ⟨-, f1, f2⟩ := nfd_ok hq
  have hf := fl_1 hq
  unfold q_X4_fieldAt
  rw [h5]
  refine ⟨fun c => absurd c (by decide), fun _ => ⟨fun c => ?_, fun _ => ⟨fun _ => ⟨vp_in_nI (n := 0) (by omega) (by omega), fun i1 ei => ?_⟩, fun c => absurd (by decide) c⟩⟩⟩
  · exact absurd ((nI_ltI (b := 1) (by omega) (by omega)).mp c) (by omega)
  · have ei : i1 = 6 := ei
    subst ei
    have h0 := hF 0 (by omega)
    refine s_fit hq hp (Nat.le_refl 1) hf.2.2 (by omega) h0.1 (h0.2 q hf) (fun t2 g e2 ht => ?_)
    exact h1 _ t2 e2 (CF_fit hF (i := 0) (by omega) hq e2 ht) (tb_of hf ht)
theorem sg_1 {q a : Nat} (hq : isP q) (ha : a < q + 1) : sg q 1 a = if a = 0 then 0 else if (List.range (q + 1)).any (fun b => b * b % (q + 1) == a) then 1 else -1 := by
  unfold sg
  by_cases a0 : a = 0
  · rw [if_pos a0, if_pos a0]
  · rw [if_neg a0, if_neg a0]
    have hiff : (∃ b, b < (q + 1) ^ 1 ∧ ml q 1 b b = a) ↔ (List.range (q + 1)).any (fun b => b * b % (q + 1) == a) = true := by
      rw [List.any_eq_true, Nat.pow_one]
      constructor
      · rintro ⟨b, h1, h2⟩
        rw [ml_1 (fl_1 hq) h1 h1] at h2
        exact ⟨b, List.mem_range.mpr h1, by rw [h2]; exact beq_self_eq_true a⟩
      · rintro ⟨b, h1, h2⟩
        have h1 := List.mem_range.mp h1
        refine ⟨b, h1, ?_⟩
        rw [ml_1 (fl_1 hq) h1 h1]
        exact beq_iff_eq.mp h2
    by_cases c : (List.range (q + 1)).any (fun b => b * b % (q + 1) == a) = true
    · rw [if_pos c, cit_pos (hiff.mpr c)]
    · rw [if_neg c, cit_neg (fun z => c (hiff.mp z))]
theorem dns_ok {q : Nat} (hq : isP q) : dns q < q + 1 ∧ 1 ≤ dns q ∧ sg q 1 (dns q) = -1 ∧ ∀ a, a < dns q → sg q 1 a = 0 ∨ sg q 1 a = 1 := by
  have hc : dns q < q + 1 ∧ 1 ≤ dns q ∧ ((List.range (q + 1)).any (fun b => b * b % (q + 1) == dns q)) = false ∧ ∀ a, a < dns q → a = 0 ∨ ((List.range (q + 1)).any (fun b => b * b % (q + 1) == a)) = true := by
    rcases hq with rfl | rfl | rfl | rfl | rfl <;> decide
  obtain ⟨h1, h2, h3, h4⟩ := hc
  refine ⟨h1, h2, ?_, fun a ha => ?_⟩
  · rw [sg_1 hq h1, if_neg (by omega), if_neg (by rw [h3]; decide)]
  · rw [sg_1 hq (by omega)]
    rcases h4 a ha with z | z
    · rw [if_pos z]; exact Or.inl rfl
    · by_cases a0 : a = 0
      · rw [if_pos a0]; exact Or.inl rfl
      · rw [if_neg a0, if_pos z]; exact Or.inr rfl
/-- only these cells of the class change at the start -/
def eqS (t t2 : fcS) : Prop := sameR t t2 ∧ fgi t2 0 8 = fgi t 0 8 ∧ fgj t2 0 9 = fgj t 0 9
theorem eqS_rf (t : fcS) : eqS t t := ⟨sameR_rf t, rfl, rfl⟩
theorem eqS_tr {t t2 t3 : fcS} (h : eqS t t2) (h2 : eqS t2 t3) : eqS t t3 := ⟨sameR_tr h.1 h2.1, h2.2.1.trans h.2.1, h2.2.2.trans h.2.2⟩
theorem eqS_fsi (t : fcS) {k j : Nat} (hk : k < 53) (hj : ¬ (k = 0 ∧ j = 8)) (v : Int32) : eqS t (fsi t k j v) := ⟨fun a ha => ⟨fun b => by rw [gi_fsi, if_neg (by omega)], rfl, fun _ => rfl, rfl⟩, by rw [gi_fsi, if_neg (by omega)], rfl⟩
theorem eqS_F {t t2 : fcS} {k : Nat} (h : eqF t t2 k) (hk : 6 ≤ k) (hk2 : k + 2 < 53) : eqS t t2 := ⟨sameR_F h hk2, h.2.1 0 8 (by omega), by unfold fgj; rw [h.1]⟩
theorem CF_fsi {t : fcS} (h : CF t) {k j : Nat} (hk : k < 6) (v : Int32) : CF (fsi t k j v) := by
  intro i hi
  have := h i hi
  refine ⟨by rw [gi_fsi, if_neg (by omega)]; exact this.1, fun q hf he => ?_⟩
  rw [gi_fsi, if_neg (by omega)] at he
  obtain ⟨g, hg⟩ := this.2 q hf he
  exact ⟨g, tab_gi hg (fun j => by rw [gi_fsi, if_neg (by omega)]) rfl rfl⟩
theorem tb_fsi {t : fcS} {q n k g : Nat} (h : tb t q n k g) {a j : Nat} (ha : a ≠ k) (v : Int32) : tb (fsi t a j v) q n k g := by
  unfold tb at *
  rw [gi_fsi, gi_fsi, gi_fsi, if_neg (by omega), if_neg (by omega), if_neg (by omega)]
  exact h
theorem l_least {t : fcS} {q : Nat} (hq : isP q) {post : fcS → Prop} (hh : ∀ t2, eqS t t2 → rp t2 q → fgi t2 0 5 = nI (nfd q) → fgi t2 0 6 = 0 → fgi t2 0 7 = nI (dns q) → CF t2 → post t2) {g : Nat} : ∀ d a (t1 : fcS), a + d = dns q → eqS t t1 → rp t1 q → fgi t1 0 5 = nI (nfd q) → fgi t1 0 6 = 0 → fgi t1 0 7 = nI a → CF t1 → tb t1 q 1 6 g → q_X4_start_69 6 post (d + 1) (nI (q + 1)) t1 := by
  have hl := isP_lo hq
  obtain ⟨d1, d2, d3, d4⟩ := dns_ok hq
  intro d
  induction d with
  | zero =>
    intro a t1 e e1 hp h5 h6 h7 hF ht
    have e : a = dns q := by omega
    subst e
    unfold q_X4_start_69
    rw [h7]
    have hfin := hh t1 e1 hp h5 h6 h7 hF
    refine ⟨fun _ => hfin, fun _ => ?_⟩
    refine s_sgn (fl_1 hq) ht (by rw [Nat.pow_one]; omega) ?_
    rw [d3]
    exact ⟨fun _ => hfin, fun c => absurd rfl c⟩
  | succ d ih =>
    intro a t1 e e1 hp h5 h6 h7 hF ht
    unfold q_X4_start_69
    rw [h7]
    refine ⟨fun c => absurd ((nI_leI (by omega) (by omega)).mp c) (by omega), fun _ => ?_⟩
    refine s_sgn (fl_1 hq) ht (by rw [Nat.pow_one]; omega) ⟨fun c => ?_, fun _ t10 e10 => ?_⟩
    · exfalso
      rcases d4 a (by omega) with z | z <;> rw [z] at c <;> exact absurd c (by decide)
    · rw [h7, nI_1] at e10
      subst e10
      refine ih (a + 1) _ (by omega) (eqS_tr e1 (eqS_fsi t1 (by omega) (by omega) _)) ?_ ?_ ?_ (gi_same _ _ _ _) (CF_fsi hF (by omega) _) (tb_fsi ht (by omega) _)
      · unfold rp; rw [gi_fsi, if_neg (by omega)]; exact hp
      · rw [gi_fsi, if_neg (by omega)]; exact h5
      · rw [gi_fsi, if_neg (by omega)]; exact h6
theorem l_cnt {t : fcS} {q : Nat} (hq : isP q) {post : fcS → Prop} (hh : ∀ t2, eqS t t2 → rp t2 q → fgi t2 0 5 = nI (nfd q) → fgi t2 0 6 = 0 → fgi t2 0 7 = nI (dns q) → CF t2 → post t2) : ∀ d c (t1 : fcS), c + d = nfd q → 1 ≤ c → eqS t t1 → rp t1 q → fgi t1 0 5 = nI c → fgi t1 0 6 = 0 → CF t1 → q_X4_start_18 post (d + 1) (nI (q + 1)) t1 := by
  have hl := isP_lo hq
  obtain ⟨n1, n2, n3⟩ := nfd_ok hq
  obtain ⟨d1, d2, d3, d4⟩ := dns_ok hq
  have fin : ∀ t1 : fcS, eqS t t1 → rp t1 q → fgi t1 0 5 = nI (nfd q) → fgi t1 0 6 = 0 → CF t1 → q_X4_fieldAt t1 1 (fun (r : Option Nat) (t4 : fcS) => (r = none → (∀ t6 : fcS, t6 = fsi t4 0 7 1 → (∃ n0, q_X4_start_69_rn post n0 (nI (q + 1)) t6))) ∧ (∀ i5 : Nat, r = some i5 → (fisF i5 ∧ (∀ t7 : fcS, t7 = fsi t4 0 7 1 → (∃ n0, q_X4_start_69 i5 post n0 (nI (q + 1)) t7))))) := fun t1 e1 hp h5 h6 hF => by
    refine s_field1 hq hp h5 hF (fun g t2 e2 hF2 ht => ⟨fun z => (nomatch z), fun i5 ei => ?_⟩)
    obtain rfl := Option.some.inj ei
    refine ⟨by unfold fisF; omega, fun t7 e7 => ?_⟩
    subst e7
    refine ⟨dns q - 1 + 1, l_least hq hh (g := g) (dns q - 1) 1 _ (by omega) (eqS_tr e1 (eqS_tr (eqS_F e2 (by omega) (by omega)) (eqS_fsi t2 (by omega) (by omega) _))) ?_ ?_ ?_ (gi_same _ _ _ _) (CF_fsi hF2 (by omega) _) (tb_fsi ht (by omega) _)⟩
    · unfold rp; rw [gi_fsi, if_neg (by omega), e2.2.1 1 0 (by omega)]; exact hp
    · rw [gi_fsi, if_neg (by omega), e2.2.1 0 5 (by omega)]; exact h5
    · rw [gi_fsi, if_neg (by omega), e2.2.1 0 6 (by omega)]; exact h6
  intro d
  induction d with
  | zero =>
    intro c t1 e c1 e1 hp h5 h6 hF
    have e : c = nfd q := by omega
    subst e
    unfold q_X4_start_18
    refine ⟨fun _ => fin t1 e1 hp h5 h6 hF, fun c5 => ?_⟩
    rw [h5] at c5
    rw [h5, nI_1]
    have hp8 : (q + 1) ^ (nfd q + 1) < 2 ^ 30 := pw7 hq (by omega)
    refine s_place hp hp8 (by omega) ⟨fun _ => fin t1 e1 hp h5 h6 hF, fun z => absurd ?_ z⟩
    exact (nI_lt (a := 343) n1 (by omega))
  | succ d ih =>
    intro c t1 e c1 e1 hp h5 h6 hF
    unfold q_X4_start_18
    rw [h5]
    refine ⟨fun z => absurd ((nI_leI (a := 5) (by omega) (by omega)).mp z) (by omega), fun _ => ?_⟩
    rw [nI_1]
    obtain ⟨m1, m2, m3, -, -⟩ := Mnu_ok hq (c + 1) (by omega) (by omega) (by omega)
    refine s_place hp (by omega) (by omega) ⟨fun z => absurd ((nI_ltI (a := 343) (by omega) (by omega)).mp z) (by omega), fun _ t17 e17 => ?_⟩
    rw [h5, nI_1] at e17
    subst e17
    refine ih (c + 1) _ (by omega) (by omega) (eqS_tr e1 (eqS_fsi t1 (by omega) (by omega) _)) ?_ (gi_same _ _ _ _) ?_ (CF_fsi hF (by omega) _)
    · unfold rp; rw [gi_fsi, if_neg (by omega)]; exact hp
    · rw [gi_fsi, if_neg (by omega)]; exact h6
theorem s_start {t : fcS} {q : Nat} (hq : isP q) (hF : CF t) {post : fcS → Prop} (hh : ∀ t2, eqS t t2 → rp t2 q → fgi t2 0 5 = nI (nfd q) → fgi t2 0 6 = 0 → fgi t2 0 7 = nI (dns q) → CF t2 → post t2) : q_X4_start t (nI (q + 1)) post := by
  have hl := isP_lo hq
  obtain ⟨n1, n2, n3⟩ := nfd_ok hq
  intro x1 e1 t2 e2 t3 e3 t4 e4
  rw [if_pos (show (2 : Int32) < nI (q + 1) from nI_lt (a := 2) (by omega) (by omega))] at e1
  subst e1 e2 e3 e4
  refine ⟨nfd q - 1 + 1, l_cnt hq hh (nfd q - 1) 1 _ (by omega) (Nat.le_refl 1) (eqS_tr (eqS_fsi t (by omega) (by omega) _) (eqS_tr (eqS_fsi _ (by omega) (by omega) _) (eqS_fsi _ (by omega) (by omega) _))) ?_ (gi_same _ _ _ _) ?_ (CF_fsi (CF_fsi (CF_fsi hF (by omega) _) (by omega) _) (by omega) _)⟩
  · unfold rp
    rw [gi_fsi, if_neg (by omega), gi_fsi, if_neg (by omega), gi_same]
  · rw [gi_fsi, if_neg (by omega), gi_same]
/-! the reference's M(n) -/
theorem l_lst1 {t : fcS} {q n v k : Nat} (hq : isP q) (hp : mp t q) (hn : n ≤ 5) (hv : v < (q + 1) ^ (n + 1)) (hk : k ≤ n) (hr : rwI t 0 (pn q v)) {post : Int32 → fcS → Prop} {k2 : Int32 → Int32 → fcS → Prop} {k20 : Int32 → Int32 → Int32 → Int32 → Int32 → fcS → Prop} (h1 : (∀ w, (q + 1) ^ k ≤ w → w < 2 * (q + 1) ^ k → prem (pn q v) (pn q w) ≠ pz) → ∀ t2, eqL t t2 [1, 2, 3] → k20 (nI n) (nI v) 1 (nI ((q + 1) ^ (k + 1))) (nI (k + 1)) t2) (h0 : (∃ w, (q + 1) ^ k ≤ w ∧ w < 2 * (q + 1) ^ k ∧ prem (pn q v) (pn q w) = pz) → ∀ t2, eqL t t2 [1, 2, 3] → k20 (nI n) (nI v) 0 (nI ((q + 1) ^ (k + 1))) (nI (k + 1)) t2) : ∀ d u (t1 : fcS), u + d = 2 * (q + 1) ^ k → (q + 1) ^ k ≤ u → eqL t t1 [1, 2, 3] → (∀ w, (q + 1) ^ k ≤ w → w < u → prem (pn q v) (pn q w) ≠ pz) → q_X5_least_37 post k2 k20 (d + 1) (nI n) (nI v) 1 (nI ((q + 1) ^ k)) (nI k) (nI u) t1 := by
  have hl := isP_lo hq
  have hpk : (q + 1) ^ (k + 1) < 2 ^ 30 := pw7 hq (by omega)
  have hpk2 : (q + 1) ^ (k + 1) = (q + 1) ^ k * (q + 1) := Nat.pow_succ _ _
  have hpk3 : (q + 1) ^ k * 3 ≤ (q + 1) ^ k * (q + 1) := Nat.mul_le_mul_left _ (by omega)
  have hpos : 0 < (q + 1) ^ k := Nat.pow_pos (by omega)
  intro d
  induction d with
  | zero =>
    intro u t1 e hu e1 hw
    unfold q_X5_least_37
    rw [show (2 : Int32) = nI 2 from rfl, pk_mul]
    refine ⟨fun _ x5 e5 x6 e6 => ?_, fun c => absurd (nI_le (by omega) (by omega)) c⟩
    rw [show fgi t1 53 1 = nI (q + 1) from eqL_mp e1 hp, pk_mul, ← hpk2] at e5
    rw [e5, e6, nI_1]
    exact h1 (fun w a b => hw w a (by omega)) t1 e1
  | succ d ih =>
    intro u t1 e hu e1 hw
    unfold q_X5_least_37
    rw [show (2 : Int32) = nI 2 from rfl, pk_mul]
    refine ⟨fun c => absurd ((nI_leI (by omega) (by omega)).mp c) (by omega), fun _ => ⟨fun c => absurd c i0, fun _ => ?_⟩⟩
    have hp1 := eqL_mp e1 hp
    have hu16 : u < (q + 1) ^ 16 := by
      have : (q + 1) ^ (k + 1) ≤ (q + 1) ^ 16 := Nat.pow_le_pow_right (by omega) (by omega)
      omega
    refine m_load hq hp1 (a := 1) (by omega) (by omega) hu16 (fun t2 e2 r2 => ?_)
    have e12 := eqL_tr e1 e2
    obtain ⟨m1, m2⟩ := pn_mon (u := u) (n := k) hq hu (by omega)
    have h0' : pn q u k ≠ 0 := fun z => by
      rw [m2] at z
      exact one_ne hq (funext fun i => by show (if i = 0 then (1 : Fin (q + 1)) else 0) = 0; split; exact z; rfl)
    refine m_div hq (eqL_mp e2 hp1) (rq := 2) (rr := 3) (a := 0) (b := 1) (by omega) (by omega) (by omega) (by omega) (by omega) (by omega) (by omega) (by omega) (by omega) (eqL_row e12 (by simp) hr) r2 (fun z => h0' (congrFun z k)) (fun t3 e3 _ r3 => ?_)
    have e13 : eqL t t3 [1, 2, 3] := eqL_mono (eqL_tr e12 e3) (by simp)
    have hp3 := eqL_mp e13 hp
    by_cases hz : prem (pn q v) (pn q u) = pz
    · have hgo : q_X5_least_37 post k2 k20 (d + 1) (nI n) (nI v) 0 (nI ((q + 1) ^ k)) (nI k) (nI (u + 1)) t3 := by
        unfold q_X5_least_37
        have := h0 ⟨u, hu, by omega, hz⟩ t3 e13
        refine ⟨fun _ x5 e5 x6 e6 => ?_, fun _ => ⟨fun _ x7 e7 x8 e8 => ?_, fun c => absurd rfl c⟩⟩
        · rw [show fgi t3 53 1 = nI (q + 1) from hp3, pk_mul, ← hpk2] at e5
          rw [e5, e6, nI_1]; exact this
        · rw [show fgi t3 53 1 = nI (q + 1) from hp3, pk_mul, ← hpk2] at e7
          rw [e7, e8, nI_1]; exact this
      refine m_deg hq (a := 3) (by omega) r3 (fun _ => ⟨fun _ x13 e13' => ?_, fun c => absurd (by decide) c⟩) (fun m hm hd hne => absurd (congrFun hz m) hne)
      rw [e13', nI_1]; exact hgo
    · refine m_deg hq (a := 3) (by omega) r3 (fun z => absurd z hz) (fun m hm hd hne => ⟨fun c => absurd c (nI_pos (by omega)), fun _ x14 e14 => ?_⟩)
      rw [e14, nI_1]
      refine ih (u + 1) t3 (by omega) (by omega) e13 (fun w a b => ?_)
      rcases Nat.lt_or_ge w u with x | x
      · exact hw w a x
      · have : w = u := by omega
        subst this
        exact hz
theorem l_lst2 {t : fcS} {q n v : Nat} (hq : isP q) (hp : mp t q) (hn : n ≤ 5) (hv : v < (q + 1) ^ (n + 1)) (hv2 : v < 2 ^ 31) (hr : rwI t 0 (pn q v)) {post : Int32 → fcS → Prop} {k2 : Int32 → Int32 → fcS → Prop} (h1 : irr q n v → ∀ t2, eqL t t2 [1, 2, 3] → post (nI v) t2) (h0 : ¬ irr q n v → ∀ t2, eqL t t2 [1, 2, 3] → k2 (nI n) (nI (v + 1)) t2) : ∀ d k (t1 : fcS), k + d = n / 2 + 1 → 1 ≤ k → eqL t t1 [1, 2, 3] → (∀ d' w, 1 ≤ d' → d' < k → (q + 1) ^ d' ≤ w → w < 2 * (q + 1) ^ d' → prem (pn q v) (pn q w) ≠ pz) → q_X5_least_20 post k2 (d + 1) (nI n) (nI v) 1 (nI ((q + 1) ^ k)) (nI k) t1 := by
  have hl := isP_lo hq
  intro d
  induction d with
  | zero =>
    intro k t1 e k1 e1 hall
    unfold q_X5_least_20
    rw [show (2 : Int32) = nI 2 from rfl, pk_mul]
    refine ⟨fun _ => ⟨fun c => absurd c i0, fun _ => h1 (fun d' w a b => hall d' w a (by omega)) t1 e1⟩, fun c => absurd (nI_lt (by omega) (by omega)) c⟩
  | succ d ih =>
    intro k t1 e k1 e1 hall
    unfold q_X5_least_20
    rw [show (2 : Int32) = nI 2 from rfl, pk_mul]
    refine ⟨fun c => absurd ((nI_ltI (by omega) (by omega)).mp c) (by omega), fun _ => ⟨fun c => absurd c i0, fun _ => ⟨(q + 1) ^ k + 1, ?_⟩⟩⟩
    refine l_lst1 (k := k) hq (eqL_mp e1 hp) hn hv (by omega) (eqL_row e1 (by simp) hr) (fun hno t2 e2 => ?_) (fun hex t2 e2 => ?_) ((q + 1) ^ k) ((q + 1) ^ k) t1 (by omega) (Nat.le_refl _) (eqL_rf _ _) (fun w a b => by omega)
    · refine ih (k + 1) t2 (by omega) (by omega) (eqL_mono (eqL_tr e1 e2) (by simp)) (fun d' w a b x y => ?_)
      rcases Nat.lt_or_ge d' k with z | z
      · exact hall d' w a z x y
      · have : d' = k := by omega
        subst this
        exact hno w x y
    · obtain ⟨w, w1, w2, w3⟩ := hex
      have hni : ¬ irr q n v := fun hi => hi k w k1 (by omega) w1 w2 w3
      have := h0 hni t2 (eqL_mono (eqL_tr e1 e2) (by simp))
      unfold q_X5_least_20
      refine ⟨fun _ => ⟨fun _ x3 e3 => ?_, fun c => absurd rfl c⟩, fun _ => ⟨fun _ => ⟨fun _ x4 e4 => ?_, fun c => absurd rfl c⟩, fun c => absurd rfl c⟩⟩
      · rw [e3, nI_1]; exact this
      · rw [e4, nI_1]; exact this
theorem m_least {t : fcS} {q n : Nat} (h : fl q n) (hp : mp t q) {post : Int32 → fcS → Prop} (hh : ∀ t2, eqW t t2 → post (nI (Mnu q n)) t2) : q_X5_least t (nI n) (nI ((q + 1) ^ n)) post := by
  have hq := h.1
  have hl := isP_lo hq
  obtain ⟨a1, a2, a3, a4, a5⟩ := fsz h.1 h.2.1 h.2.2
  have hs : ∀ x, x < 2 * (q + 1) ^ n → x < (q + 1) ^ (n + 1) := fun x hx => by
    rw [Nat.pow_succ]
    have h3 : (q + 1) ^ n * 3 ≤ (q + 1) ^ n * (q + 1) := Nat.mul_le_mul_left _ (by omega)
    omega
  have key : ∀ d v (t1 : fcS), v + d = Mnu q n → (q + 1) ^ n ≤ v → eqW t t1 → q_X5_least_2 post (d + 1) (nI n) (nI v) t1 := by
    intro d
    induction d with
    | zero =>
      intro v t1 e hv e1
      have e : v = Mnu q n := by omega
      subst e
      unfold q_X5_least_2
      have hp1 : mp t1 q := by unfold mp; rw [eqW_gi e1]; exact hp
      have hb := hs _ a4
      refine m_load hq hp1 (a := 0) (by omega) (by omega) (Nat.lt_of_lt_of_le hb (Nat.pow_le_pow_right (by omega) (by omega))) (fun t2 e2 r2 x2 ex2 => ?_)
      rw [show fgi t2 53 1 = nI (q + 1) from eqL_mp e2 hp1] at ex2
      subst ex2
      have := l_lst2 (post := post) (k2 := fun v1_ v3_ t_ => q_X5_least_2 post 0 v1_ v3_ t_) hq (eqL_mp e2 hp1) a5 hb (by omega) r2 (fun _ t3 e3 => hh t3 (eqW_tr e1 (eqW_tr (eqW_L e2) (eqW_L e3)))) (fun c => absurd (M_least (u := 0) hq h.2.1 h.2.2).1 c) (n / 2) 1 t2 (by omega) (Nat.le_refl 1) (eqL_rf _ _) (fun d' w a b => by omega)
      rw [Nat.pow_one] at this
      exact ⟨_, this⟩
    | succ d ih =>
      intro v t1 e hv e1
      unfold q_X5_least_2
      have hp1 : mp t1 q := by unfold mp; rw [eqW_gi e1]; exact hp
      have hb := hs v (by omega)
      refine m_load hq hp1 (a := 0) (by omega) (by omega) (Nat.lt_of_lt_of_le hb (Nat.pow_le_pow_right (by omega) (by omega))) (fun t2 e2 r2 x2 ex2 => ?_)
      rw [show fgi t2 53 1 = nI (q + 1) from eqL_mp e2 hp1] at ex2
      subst ex2
      have := l_lst2 (post := post) (k2 := fun v1_ v3_ t_ => q_X5_least_2 post (d + 1) v1_ v3_ t_) hq (eqL_mp e2 hp1) a5 hb (by omega) r2 (fun c => absurd c ((M_least hq h.2.1 h.2.2).2 hv (by omega))) (fun _ t3 e3 => ih (v + 1) t3 (by omega) (by omega) (eqW_tr e1 (eqW_tr (eqW_L e2) (eqW_L e3)))) (n / 2) 1 t2 (by omega) (Nat.le_refl 1) (eqL_rf _ _) (fun d' w a b => by omega)
      rw [Nat.pow_one] at this
      exact ⟨_, this⟩
  exact ⟨_, key (Mnu q n - (q + 1) ^ n) ((q + 1) ^ n) t (by omega) (Nat.le_refl _) (eqW_rf t)⟩
