/-! the class's fields: fit -/
def fk (t : fcS) (q n k : Nat) : Prop := fgi t k 1 = nI n ∧ fgi t k 4 = nI (q + 1) ∧ fgi t k 5 = nI ((q + 1) ^ n) ∧ fgi t k 6 = nI ((q + 1) ^ n - 1)
theorem eqR_fk {t t2 : fcS} {r q n k : Nat} (h : eqR t t2 r) (hf : fk t q n k) : fk t2 q n k := by
  unfold fk; rw [eqR_gi h, eqR_gi h, eqR_gi h, eqR_gi h]; exact hf
theorem M_least {q n u : Nat} (hq : isP q) (hn1 : 1 ≤ n) (hn : n ≤ nfd q) : irr q n (Mnu q n) ∧ ((q + 1) ^ n ≤ u → u < Mnu q n → ¬ irr q n u) := by
  have hl := isP_lo hq
  obtain ⟨a1, a2, a3, a4, a5⟩ := fsz hq hn1 hn
  obtain ⟨-, f1, f2⟩ := nfd_ok hq
  obtain ⟨m1, m2, m3, m4, m5⟩ := Mnu_ok hq n (by omega) hn1 hn
  have hs : ∀ x, x < 2 * (q + 1) ^ n → x < (q + 1) ^ (n + 1) := fun x hx => by
    rw [Nat.pow_succ]
    have h3 : (q + 1) ^ n * 3 ≤ (q + 1) ^ n * (q + 1) := Nat.mul_le_mul_left _ (by omega)
    omega
  refine ⟨(cirr_ok hq (hs _ a4)).mp m4, fun h1 h2 hi => ?_⟩
  have h3 := (cirr_ok hq (hs u (by omega))).mpr hi
  rw [List.all_eq_true] at m5
  have h4 := m5 (u - (q + 1) ^ n) (List.mem_range.mpr (by omega))
  rw [show (q + 1) ^ n + (u - (q + 1) ^ n) = u by omega, h3] at h4
  exact absurd h4 (by decide)
theorem l_fit1 {t : fcS} {q n k : Nat} (hq : isP q) (hp : rp t q) (hn1 : 1 ≤ n) (hn : n ≤ nfd q) (hF : fk t q n k) (hD : fgi t k 7 = nI (Mnu q n)) {post : fcS → Prop} (h : ∀ t2 g, eqF t t2 k → tab t2 q n k g → post t2) {g : Nat} (hg1 : g < (q + 1) ^ n) (hG : isG (fM q n) (pn q g) ((q + 1) ^ n - 1)) : ∀ d b (t1 : fcS), b + d = g → eqR t t1 (k + 1) → q_X2_fit_109 k post (d + 1) (nI b) t1 := by
  have hl := isP_lo hq
  obtain ⟨a1, a2, a3, a4, a5⟩ := fsz hq hn1 hn
  have fin : ∀ (t2 : fcS) (b : Nat), b < (q + 1) ^ n → eqR t t2 (k + 1) → isG (fM q n) (pn q b) ((q + 1) ^ n - 1) → (∀ e, e < (q + 1) ^ n - 1 → fga t2 (k + 1) e = Ni q (fpw (fM q n) (pn q b) e)) → ∃ n0, q_X2_fit_137 k post n0 0 t2 := fun t2 b hb e2 hB hpow => by
    have hF2 := eqR_fk e2 hF
    have := l_exps hq hn1 hn hF2.2.2.2 (pn_dl hb) hB hpow (post := post) (fun t3 e3 hex => by
      refine h t3 (pn q b) (eqF_tr (eqF_R e2 (Or.inl rfl)) (eqF_R e3 (Or.inr rfl))) ?_
      have hF3 := eqR_fk e3 hF2
      refine ⟨hF3.2.1, hF3.2.2.1, hF3.2.2.2, ?_, hB, pn_dl hb, ?_, hex⟩
      · rw [eqR_gi e3, eqR_gi e2]; exact hD
      · intro e he
        rw [e3.2.2 (k + 1) (by omega)]; exact hpow e he) ((q + 1) ^ n - 1) 0 t2 (by omega) (eqR_rf _ _) (fun j hj => by omega)
    exact ⟨_, this⟩
  intro d
  induction d with
  | zero =>
    intro b t1 e e1
    have e : b = g := by omega
    subst e
    unfold q_X2_fit_109
    have hF1 := eqR_fk e1 hF
    rw [hF1.2.2.1]
    refine ⟨fun c => absurd ((nI_leI (by omega) (by omega)).mp c) (by omega), fun _ => ?_⟩
    refine s_walk hq (eqR_rp e1 hp) hn1 hn hF1.2.2.2 (by rw [eqR_gi e1]; exact hD) hg1 ?_ ?_
    · intro t2 e2 hB hpow
      have e12 := eqR_tr e1 e2
      refine ⟨fun _ => fin t2 b hg1 e12 hB hpow, fun c => absurd ?_ c⟩
      rw [(eqR_fk e12 hF).2.2.2]
    · intro t2 r _ _ hno
      exact absurd hG hno
  | succ d ih =>
    intro b t1 e e1
    unfold q_X2_fit_109
    have hF1 := eqR_fk e1 hF
    rw [hF1.2.2.1]
    refine ⟨fun c => absurd ((nI_leI (by omega) (by omega)).mp c) (by omega), fun _ => ?_⟩
    refine s_walk hq (eqR_rp e1 hp) hn1 hn hF1.2.2.2 (by rw [eqR_gi e1]; exact hD) (show b < (q + 1) ^ n by omega) ?_ ?_
    · intro t2 e2 hB hpow
      have e12 := eqR_tr e1 e2
      refine ⟨fun _ => fin t2 b (by omega) e12 hB hpow, fun c => absurd ?_ c⟩
      rw [(eqR_fk e12 hF).2.2.2]
    · intro t2 r e2 hr hno
      have e12 := eqR_tr e1 e2
      rw [(eqR_fk e12 hF).2.2.2]
      refine ⟨fun c => absurd ((nI_eq (by omega) (by omega)).mp c) (by omega), fun _ x14 e14 => ?_⟩
      rw [e14, nI_1]
      exact ih (b + 1) t2 (by omega) e12
theorem l_fit2 {t : fcS} {q n k : Nat} (hq : isP q) (hn1 : 1 ≤ n) (hn : n ≤ nfd q) (hk : k ≠ 1) {post : fcS → Prop} (h : ∀ t2 g, eqF t t2 k → tab t2 q n k g → post t2) : ∀ d u (t1 : fcS), u + d = Mnu q n → (q + 1) ^ n ≤ u → eqF t t1 k → rp t1 q → fk t1 q n k → fgi t1 k 7 = nI u → q_X2_fit_63 k post (d + 1) t1 := by
  have hl := isP_lo hq
  obtain ⟨a1, a2, a3, a4, a5⟩ := fsz hq hn1 hn
  have hpw := pw10 hq hn1 hn
  have hs : ∀ x, x < 2 * (q + 1) ^ n → x < (q + 1) ^ (2 * n + 1) := fun x hx => by
    have h3 : (q + 1) ^ n * 3 ≤ (q + 1) ^ n * (q + 1) := Nat.mul_le_mul_left _ (by omega)
    have h4 : (q + 1) ^ (n + 1) ≤ (q + 1) ^ (2 * n + 1) := Nat.pow_le_pow_right (by omega) (by omega)
    rw [Nat.pow_succ] at h4
    omega
  have fin : ∀ t1 : fcS, eqF t t1 k → rp t1 q → fk t1 q n k → fgi t1 k 7 = nI (Mnu q n) → ∃ n0, q_X2_fit_109 k post n0 1 t1 := fun t1 e1 hp hF hD => by
    obtain ⟨g, g1, g2, g3, g4⟩ := isG_ex hq hn1 hn
    have := l_fit1 hq hp hn1 hn hF hD (post := post) (fun t2 g e2 ht => h t2 g (eqF_tr e1 e2) ht) g2 g4 (g - 1) 1 t1 (by omega) (eqR_rf _ _)
    exact ⟨_, this⟩
  intro d
  induction d with
  | zero =>
    intro u t1 e hu e1 hp hF hD
    have e : u = Mnu q n := by omega
    subst e
    unfold q_X2_fit_63
    refine ⟨fun _ => fin t1 e1 hp hF hD, fun _ => ?_⟩
    rw [hD, hF.1]
    refine s_isProd hq hp hpw (hs _ a4) (by omega) (fun c => absurd (M_least (u := 0) hq hn1 hn).1 c) (fun _ => ?_)
    exact ⟨fun _ => fin t1 e1 hp hF hD, fun c => absurd rfl c⟩
  | succ d ih =>
    intro u t1 e hu e1 hp hF hD
    unfold q_X2_fit_63
    rw [hD, hF.2.2.1, hF.1, show (2 : Int32) = nI 2 from rfl, pk_mul]
    refine ⟨fun c => absurd ((nI_leI (by omega) (by omega)).mp c) (by omega), fun _ => ?_⟩
    refine s_isProd hq hp hpw (hs u (by omega)) (by omega) (fun _ => ?_) (fun c => absurd c ((M_least hq hn1 hn).2 hu (by omega)))
    refine ⟨fun c => absurd c (by decide), fun _ t17 e17 => ?_⟩
    rw [hD, nI_1] at e17
    subst e17
    have e2 := eqF_fsi t1 k 7 (by omega) (nI (u + 1))
    refine ih (u + 1) _ (by omega) (by omega) (eqF_tr e1 e2) (eqF_rp e2 hk hp) ?_ ?_
    · unfold fk
      rw [gi_fsi, gi_fsi, gi_fsi, gi_fsi, if_neg (by omega), if_neg (by omega), if_neg (by omega), if_neg (by omega)]
      exact hF
    · rw [gi_fsi, if_pos ⟨rfl, rfl⟩]
theorem gi_same (t : fcS) (k j : Nat) (v : Int32) : fgi (fsi t k j v) k j = v := by rw [gi_fsi, if_pos ⟨rfl, rfl⟩]
/-- a field is made ready -/
theorem s_fit {t : fcS} {q n k : Nat} (hq : isP q) (hp : rp t q) (hn1 : 1 ≤ n) (hn : n ≤ nfd q) (hk : k ≠ 1) (hN : fgi t k 1 = nI n) (ht : fgi t k 4 = nI (q + 1) → ∃ g, tab t q n k g) {post : fcS → Prop} (h : ∀ t2 g, eqF t t2 k → tab t2 q n k g → post t2) : q_X2_fit t k post := by
  have hl := isP_lo hq
  obtain ⟨a1, a2, a3, a4, a5⟩ := fsz hq hn1 hn
  unfold q_X2_fit
  rw [show fgi t 1 0 = nI (q + 1) from hp]
  refine ⟨fun _ t1 e1 => ?_, fun c => ?_⟩
  · subst e1
    have f1 := eqF_fsi t k 4 (by omega) (nI (q + 1))
    have hp1 := eqF_rp f1 hk hp
    rw [f1.2.2.1, hN]
    refine s_place hp1 (by omega) (by omega) (fun t4 e4 x5 e5 t6 e6 t7 e7 => ?_)
    subst e4
    rw [gi_same] at e5
    have e5 : x5 = nI ((q + 1) ^ n - 1) := by
      rw [e5, show (1 : Int32) = nI 1 from rfl, pk_sub (by omega), if_pos (nI_lt (by omega) (by omega))]
    subst e5 e6
    rw [gi_fsi, if_neg (by omega), gi_fsi, if_pos ⟨rfl, rfl⟩] at e7
    subst e7
    have f2 := eqF_tr f1 (eqF_tr (eqF_fsi _ k 5 (by omega) (nI ((q + 1) ^ n))) (eqF_tr (eqF_fsi _ k 6 (by omega) (nI ((q + 1) ^ n - 1))) (eqF_fsi _ k 7 (by omega) (nI ((q + 1) ^ n)))))
    have := l_fit2 hq hn1 hn hk h (Mnu q n - (q + 1) ^ n) ((q + 1) ^ n) _ (by omega) (Nat.le_refl _) f2 (eqF_rp f2 hk hp) (by
      unfold fk
      rw [f2.2.2.1]
      simp only [gi_fsi]
      simp [hN]) (by rw [gi_fsi, if_pos ⟨rfl, rfl⟩])
    exact ⟨_, this⟩
  · obtain ⟨g, hg⟩ := ht c
    exact h t g (eqF_rf t k) hg
