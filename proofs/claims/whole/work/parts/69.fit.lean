/-- only row r changed -/
def eqR (t t2 : fcS) (r : Nat) : Prop := t2.1 = t.1 ∧ t2.2.2 = t.2.2 ∧ ∀ a, a ≠ r → fga t2 a = fga t a
theorem eqR_rf (t : fcS) (r : Nat) : eqR t t r := ⟨rfl, rfl, fun _ _ => rfl⟩
theorem eqR_fsa {t t2 : fcS} {r : Nat} (h : eqR t t2 r) (i : Nat) (v : Int32) : eqR t (fsa t2 r i v) r := ⟨h.1, h.2.1, fun a ha => by rw [ga_fsaN t2 ha]; exact h.2.2 a ha⟩
theorem eqR_gi {t t2 : fcS} {r : Nat} (h : eqR t t2 r) (k j : Nat) : fgi t2 k j = fgi t k j := by unfold fgi; rw [h.1]
theorem eqR_rp {t t2 : fcS} {r q : Nat} (h : eqR t t2 r) (hp : rp t q) : rp t2 q := by unfold rp; rw [eqR_gi h]; exact hp
theorem eqR_tr {t t2 t3 : fcS} {r : Nat} (h : eqR t t2 r) (h2 : eqR t2 t3 r) : eqR t t3 r := ⟨h2.1.trans h.1, h2.2.1.trans h.2.1, fun a ha => (h2.2.2 a ha).trans (h.2.2 a ha)⟩
noncomputable abbrev fM (q n : Nat) : PS q := pn q (Mnu q n)
theorem fM_is {q n : Nat} (hq : isP q) (hn1 : 1 ≤ n) (hn : n ≤ nfd q) : isM (fM q n) n := by
  obtain ⟨a1, a2, a3, a4, a5⟩ := fsz hq hn1 hn
  exact (cml_ok (a := 0) (b := 0) hq a3 a4 hn1 (by omega) (by omega)).2.2
theorem Ni_inj {q m : Nat} (hq : isP q) (hm : (q + 1) ^ m < 2 ^ 30) {f g : PS q} (hf : dl f m) (hg : dl g m) (h : Ni q f = Ni q g) : f = g := by
  rw [Ni_dl (isP_lo hq).1 hm hf, Ni_dl (isP_lo hq).1 hm hg] at h
  have h1 := nu_lt m f
  have h2 := nu_lt m g
  have := (nI_eq (by omega) (by omega)).mp h
  rw [← pn_nu hf, ← pn_nu hg, this]
theorem l_walk {t : fcS} {q n k : Nat} (hq : isP q) (hp : rp t q) (hn1 : 1 ≤ n) (hn : n ≤ nfd q) (hU : fgi t k 6 = nI ((q + 1) ^ n - 1)) (hD : fgi t k 7 = nI (Mnu q n)) {B : PS q} (hB : dl B n) {post : Int32 → fcS → Prop}
    (h1 : ∀ t2, eqR t t2 (k + 1) → isG (fM q n) B ((q + 1) ^ n - 1) → (∀ e, e < (q + 1) ^ n - 1 → fga t2 (k + 1) e = Ni q (fpw (fM q n) B e)) → post (nI ((q + 1) ^ n - 1)) t2)
    (h2 : ∀ t2 r, eqR t t2 (k + 1) → r < (q + 1) ^ n - 1 → ¬ isG (fM q n) B ((q + 1) ^ n - 1) → post (nI r) t2) : ∀ d e (t1 : fcS), e + d = (q + 1) ^ n - 1 → eqR t t1 (k + 1) → (∀ j, j < e → fga t1 (k + 1) j = Ni q (fpw (fM q n) B j)) → (∀ j, 0 < j → j ≤ e → fpw (fM q n) B j ≠ pl_c 1) → q_X2_walk_4 k post (d + 1) (Ni q B) (Ni q (fpw (fM q n) B e)) (nI e) t1 := by
  have hl := isP_lo hq
  obtain ⟨a1, a2, a3, a4, a5⟩ := fsz hq hn1 hn
  have hM := fM_is hq hn1 hn
  have hpw := pw10 hq hn1 hn
  have hpn : (q + 1) ^ n < 2 ^ 30 := by omega
  intro d
  induction d with
  | zero =>
    intro e t1 he e1 hj hne
    unfold q_X2_walk_4
    have he : e = (q + 1) ^ n - 1 := by omega
    rw [eqR_gi e1, hU]
    refine ⟨fun _ => ?_, fun c => absurd (nI_le (by omega) (by omega)) c⟩
    have := h2 t1 0 e1 (by omega) (fun g => hne ((q + 1) ^ n - 1) (by omega) (by omega) g.2.1)
    exact this
  | succ d ih =>
    intro e t1 he e1 hj hne
    unfold q_X2_walk_4
    rw [eqR_gi e1, hU]
    refine ⟨fun c => absurd ((nI_leI (by omega) (by omega)).mp c) (by omega), fun _ => ?_⟩
    refine s_put (by omega) (by omega) ?_
    have e2 : eqR t (fsa t1 (k + 1) e (Ni q (fpw (fM q n) B e))) (k + 1) := eqR_fsa e1 _ _
    have hp2 := eqR_rp e2 hp
    have hf := fpw_dl hq hM hB e
    refine s_pro (a := n) (b := n) (M := 2 * n + 1) hq hp2 hn1 (by omega) hpw hf hB ?_
    rw [eqR_gi e2, hD]
    have hMl : Mnu q n < (q + 1) ^ (2 * n + 1) := by
      have : (q + 1) ^ (n + 1) ≤ (q + 1) ^ (2 * n + 1) := Nat.pow_le_pow_right (by omega) (by omega)
      rw [Nat.pow_succ] at this
      have h3 : (q + 1) ^ n * 3 ≤ (q + 1) ^ n * (q + 1) := Nat.mul_le_mul_left _ (by omega)
      omega
    rw [Ni_pn hq hpw hMl]
    refine s_rest hq hp2 hpw (dl_mono (dl_mul hf hB) (by omega)) (pn_dl hMl) ?_
    have e5 : prem (pl_mul (fpw (fM q n) B e) B) (pn q (Mnu q n)) = fpw (fM q n) B (e + 1) := rfl
    rw [e5]
    have hf1 := fpw_dl hq hM hB (e + 1)
    have hj2 : ∀ j, j < e + 1 → fga (fsa t1 (k + 1) e (Ni q (fpw (fM q n) B e))) (k + 1) j = Ni q (fpw (fM q n) B j) := fun j hj3 => by
      rw [ga_fsaG]
      rcases Nat.lt_or_ge j e with w | w
      · rw [if_neg (by omega)]; exact hj j w
      · have : j = e := by omega
        subst this
        rw [if_pos rfl]
    refine ⟨fun c x6 e6 => ?_, fun c => ?_⟩
    · rw [e6, nI_1]
      refine ih (e + 1) _ (by omega) e2 hj2 (fun j j0 j1 => ?_)
      rcases Nat.lt_or_ge e j with w | w
      · have : j = e + 1 := by omega
        subst this
        exact fun z => c (by rw [z]; exact Ni_one hq)
      · exact hne j j0 w
    · have hone : fpw (fM q n) B (e + 1) = pl_c 1 := Ni_inj hq hpn hf1 (dl_mono (pc_dl 1) hn1) (c.trans (Ni_one hq).symm)
      rw [nI_1]
      rcases Nat.lt_or_ge (e + 1) ((q + 1) ^ n - 1) with w | w
      · exact h2 _ (e + 1) e2 w (fun g => g.2.2 (e + 1) (by omega) w hone)
      · have he3 : e + 1 = (q + 1) ^ n - 1 := by omega
        rw [he3] at hone ⊢
        exact h1 _ e2 ⟨by omega, hone, fun j j0 j1 => hne j j0 (by omega)⟩ (fun j hj3 => hj2 j (by omega))
theorem s_walk {t : fcS} {q n k b : Nat} (hq : isP q) (hp : rp t q) (hn1 : 1 ≤ n) (hn : n ≤ nfd q) (hU : fgi t k 6 = nI ((q + 1) ^ n - 1)) (hD : fgi t k 7 = nI (Mnu q n)) (hb : b < (q + 1) ^ n) {post : Int32 → fcS → Prop}
    (h1 : ∀ t2, eqR t t2 (k + 1) → isG (fM q n) (pn q b) ((q + 1) ^ n - 1) → (∀ e, e < (q + 1) ^ n - 1 → fga t2 (k + 1) e = Ni q (fpw (fM q n) (pn q b) e)) → post (nI ((q + 1) ^ n - 1)) t2)
    (h2 : ∀ t2 r, eqR t t2 (k + 1) → r < (q + 1) ^ n - 1 → ¬ isG (fM q n) (pn q b) ((q + 1) ^ n - 1) → post (nI r) t2) : q_X2_walk t k (nI b) post := by
  obtain ⟨a1, a2, a3, a4, a5⟩ := fsz hq hn1 hn
  have := l_walk hq hp hn1 hn hU hD (pn_dl hb) h1 h2 ((q + 1) ^ n - 1) 0 t (by omega) (eqR_rf t _) (fun j hj => by omega) (fun j j0 j1 => by omega)
  rw [← Ni_pn hq (by omega) hb, show fpw (fM q n) (pn q b) 0 = pl_c 1 from rfl, Ni_one hq] at this
  exact ⟨_, this⟩
/-- what a made field holds -/
def tab (t : fcS) (q n k : Nat) (g : PS q) : Prop := fgi t k 4 = nI (q + 1) ∧ fgi t k 5 = nI ((q + 1) ^ n) ∧ fgi t k 6 = nI ((q + 1) ^ n - 1) ∧ fgi t k 7 = nI (Mnu q n) ∧ isG (fM q n) g ((q + 1) ^ n - 1) ∧ dl g n ∧ (∀ e, e < (q + 1) ^ n - 1 → fga t (k + 1) e = Ni q (fpw (fM q n) g e)) ∧ ∀ e, e < (q + 1) ^ n - 1 → fga t (k + 2) (nu q n (fpw (fM q n) g e)) = nI e
/-- only the field's own cells changed, and not its n -/
def eqF (t t2 : fcS) (k : Nat) : Prop := t2.2.2 = t.2.2 ∧ (∀ a b, a ≠ k → fgi t2 a b = fgi t a b) ∧ fgi t2 k 1 = fgi t k 1 ∧ ∀ a, a ≠ k + 1 → a ≠ k + 2 → fga t2 a = fga t a
theorem eqF_rf (t : fcS) (k : Nat) : eqF t t k := ⟨rfl, fun _ _ _ => rfl, rfl, fun _ _ _ => rfl⟩
theorem eqF_tr {t t2 t3 : fcS} {k : Nat} (h : eqF t t2 k) (h2 : eqF t2 t3 k) : eqF t t3 k := ⟨h2.1.trans h.1, fun a b ha => (h2.2.1 a b ha).trans (h.2.1 a b ha), h2.2.2.1.trans h.2.2.1, fun a h3 h4 => (h2.2.2.2 a h3 h4).trans (h.2.2.2 a h3 h4)⟩
theorem eqF_R {t t2 : fcS} {k r : Nat} (h : eqR t t2 r) (hr : r = k + 1 ∨ r = k + 2) : eqF t t2 k := ⟨h.2.1, fun a b _ => eqR_gi h a b, eqR_gi h k 1, fun a h3 h4 => h.2.2 a (by rcases hr with z | z <;> omega)⟩
theorem gi_fsi (t : fcS) (k j : Nat) (v : Int32) (a b : Nat) : fgi (fsi t k j v) a b = if a = k ∧ b = j then v else fgi t a b := rfl
theorem eqF_fsi (t : fcS) (k j : Nat) (hj : j ≠ 1) (v : Int32) : eqF t (fsi t k j v) k := ⟨rfl, fun a b ha => by rw [gi_fsi, if_neg (fun z => ha z.1)], by rw [gi_fsi, if_neg (fun z => hj z.2.symm)], fun _ _ _ => rfl⟩
theorem eqF_rp {t t2 : fcS} {k q : Nat} (h : eqF t t2 k) (hk : k ≠ 1) (hp : rp t q) : rp t2 q := by unfold rp; rw [h.2.1 1 0 (fun z => hk z.symm)]; exact hp
theorem l_exps {t : fcS} {q n k : Nat} (hq : isP q) (hn1 : 1 ≤ n) (hn : n ≤ nfd q) (hU : fgi t k 6 = nI ((q + 1) ^ n - 1)) {g : PS q} (hg : dl g n) (hG : isG (fM q n) g ((q + 1) ^ n - 1)) (hpow : ∀ e, e < (q + 1) ^ n - 1 → fga t (k + 1) e = Ni q (fpw (fM q n) g e)) {post : fcS → Prop} (h : ∀ t2, eqR t t2 (k + 2) → (∀ e, e < (q + 1) ^ n - 1 → fga t2 (k + 2) (nu q n (fpw (fM q n) g e)) = nI e) → post t2) : ∀ d e (t1 : fcS), e + d = (q + 1) ^ n - 1 → eqR t t1 (k + 2) → (∀ j, j < e → fga t1 (k + 2) (nu q n (fpw (fM q n) g j)) = nI j) → q_X2_fit_137 k post (d + 1) (nI e) t1 := by
  have hl := isP_lo hq
  obtain ⟨a1, a2, a3, a4, a5⟩ := fsz hq hn1 hn
  have hM := fM_is hq hn1 hn
  intro d
  induction d with
  | zero =>
    intro e t1 he e1 hj
    unfold q_X2_fit_137
    rw [eqR_gi e1, hU]
    exact ⟨fun _ => h t1 e1 (fun j hj2 => hj j (by omega)), fun c => absurd (nI_le (by omega) (by omega)) c⟩
  | succ d ih =>
    intro e t1 he e1 hj
    unfold q_X2_fit_137
    rw [eqR_gi e1, hU]
    refine ⟨fun c => absurd ((nI_leI (by omega) (by omega)).mp c) (by omega), fun _ => ?_⟩
    refine s_at (by omega) (by omega) ?_
    rw [e1.2.2 (k + 1) (by omega), hpow e (by omega), Ni_dl hl.1 (show (q + 1) ^ n < 2 ^ 30 by omega) (fpw_dl hq hM hg e)]
    have hlt := nu_lt n (fpw (fM q n) g e)
    refine s_put (by omega) (by omega) ?_
    intro x11 e11
    rw [e11, nI_1]
    refine ih (e + 1) _ (by omega) (eqR_fsa e1 _ _) (fun j hj2 => ?_)
    rw [ga_fsaG]
    rcases Nat.lt_or_ge j e with w | w
    · rw [if_neg]
      · exact hj j w
      · intro z
        have h1 : fpw (fM q n) g j = fpw (fM q n) g e := by
          rw [← pn_nu (fpw_dl hq hM hg j), ← pn_nu (fpw_dl hq hM hg e), z]
        have := isG_inj hq hM hg hG (by omega) (by omega) h1
        omega
    · have : j = e := by omega
      subst this
      rw [if_pos rfl]
