/-! the class's list -/
def LI (t : fcS) (q k : Nat) (l : List (Nat × Nat)) : Prop := fgi t k 4 = nI l.length ∧ ∀ i, i < l.length → fga t (k + 1) i = nI ((pr l i).1 * (q + 1) ^ 2 + (pr l i).2)
def eqK (t t2 : fcS) (k : Nat) : Prop := (∀ a j, ¬ (a = k ∧ j = 4) → fgi t2 a j = fgi t a j) ∧ (∀ a, a ≠ k + 1 → fga t2 a = fga t a) ∧ t2.2.2 = t.2.2
theorem eqK_rf (t : fcS) (k : Nat) : eqK t t k := ⟨fun _ _ _ => rfl, fun _ _ => rfl, rfl⟩
theorem eqK_tr {t t2 t3 : fcS} {k : Nat} (h : eqK t t2 k) (h2 : eqK t2 t3 k) : eqK t t3 k := ⟨fun a j x => (h2.1 a j x).trans (h.1 a j x), fun a x => (h2.2.1 a x).trans (h.2.1 a x), h2.2.2.trans h.2.2⟩
theorem eqK_rp {t t2 : fcS} {k q : Nat} (h : eqK t t2 k) (hk : k ≠ 1) (hp : rp t q) : rp t2 q := by
  unfold rp at *
  rw [h.1 1 0 (by omega)]; exact hp
theorem pr_app (l : List (Nat × Nat)) (x : Nat × Nat) (i : Nat) (hi : i < l.length + 1) : pr (l ++ [x]) i = if i < l.length then pr l i else x := by
  unfold pr
  by_cases c : i < l.length
  · rw [if_pos c, List.getD_eq_getElem?_getD, List.getD_eq_getElem?_getD, List.getElem?_append_left c]
  · rw [if_neg c]
    have : i = l.length := by omega
    subst this
    rw [List.getD_eq_getElem?_getD, List.getElem?_append_right (Nat.le_refl _), Nat.sub_self]
    rfl
theorem LI_push {t : fcS} {q k : Nat} {l : List (Nat × Nat)} (h : LI t q k l) (u v : Nat) : LI (fsi (fsa t (k + 1) l.length (nI (u * (q + 1) ^ 2 + v))) k 4 (nI (l.length + 1))) q k (l ++ [(u, v)]) := by
  refine ⟨?_, fun i hi => ?_⟩
  · rw [gi_same, List.length_append]; rfl
  · rw [List.length_append] at hi
    have hi : i < l.length + 1 := hi
    show fga (fsa t (k + 1) l.length (nI (u * (q + 1) ^ 2 + v))) (k + 1) i = _
    rw [ga_fsaG, pr_app l (u, v) i hi]
    by_cases c : i < l.length
    · rw [if_pos c, if_neg (by omega)]; exact h.2 i c
    · rw [if_neg c, if_pos (by omega)]
/-- the first v of those with u -/
noncomputable def clp (q : Nat) (P : PS q) (u v : Nat) : List (Nat × Nat) := ((List.range v).filter (fun w => gdb q P u w)).map (fun w => (u, w))
theorem clp_s (q : Nat) (P : PS q) (u v : Nat) : clp q P u (v + 1) = clp q P u v ++ (if gdb q P u v then [(u, v)] else []) := by
  unfold clp
  rw [List.range_succ, List.filter_append, List.map_append]
  congr 1
  by_cases c : gdb q P u v = true
  · rw [if_pos c, List.filter_cons_of_pos c]; rfl
  · rw [if_neg c, List.filter_cons_of_neg c]; rfl
theorem clu_p (q : Nat) (P : PS q) (e u : Nat) : clu q P e u = clp q P u e := rfl
theorem clp_le (q : Nat) (P : PS q) (u v : Nat) : ∀ k, ∃ r, clp q P u (v + k) = clp q P u v ++ r
  | 0 => ⟨[], (List.append_nil _).symm⟩
  | k + 1 => by
    obtain ⟨r, h⟩ := clp_le q P u v k
    exact ⟨r ++ _, by rw [← Nat.add_assoc, clp_s, h, List.append_assoc]⟩
noncomputable def cdp (q : Nat) (P : PS q) (d a : Nat) : List (Nat × Nat) := (List.range a).flatMap (fun a => clu q P ((q + 1) ^ d) ((q + 1) ^ d + a))
theorem cdp_s (q : Nat) (P : PS q) (d a : Nat) : cdp q P d (a + 1) = cdp q P d a ++ clu q P ((q + 1) ^ d) ((q + 1) ^ d + a) := by
  unfold cdp
  rw [List.range_succ, List.flatMap_append, List.flatMap_singleton]
theorem cdp_le (q : Nat) (P : PS q) (d a : Nat) : ∀ k, (cdp q P d a).length ≤ (cdp q P d (a + k)).length
  | 0 => Nat.le_refl _
  | k + 1 => by
    have := cdp_le q P d a k
    rw [← Nat.add_assoc, cdp_s, List.length_append]
    omega
theorem cld_p (q : Nat) (P : PS q) (d : Nat) : cld q P d = cdp q P d ((q + 1) ^ d) := rfl
noncomputable def cgp (q : Nat) (P : PS q) (g : Nat) : List (Nat × Nat) := (List.range g).flatMap (fun d => cld q P d)
theorem cgp_s (q : Nat) (P : PS q) (g : Nat) : cgp q P (g + 1) = cgp q P g ++ cld q P g := by
  unfold cgp
  rw [List.range_succ, List.flatMap_append, List.flatMap_singleton]
theorem cgp_le (q : Nat) (P : PS q) (g : Nat) : ∀ k, (cgp q P g).length ≤ (cgp q P (g + k)).length
  | 0 => Nat.le_refl _
  | k + 1 => by
    have := cgp_le q P g k
    rw [← Nat.add_assoc, cgp_s, List.length_append]
    omega
theorem cls_p (q : Nat) (P : PS q) (g : Nat) : cls q P g = cgp q P (g + 1) := rfl
/-- no part is longer than all -/
theorem part_le {q g d a : Nat} (P : PS q) (hd : d ≤ g) (ha : a < (q + 1) ^ d) : (cgp q P d ++ cdp q P d a ++ clu q P ((q + 1) ^ d) ((q + 1) ^ d + a)).length ≤ (cls q P g).length := by
  have h1 := cgp_le q P (d + 1) (g - d)
  rw [show d + 1 + (g - d) = g + 1 by omega, cgp_s, cld_p] at h1
  have h2 := cdp_le q P d (a + 1) ((q + 1) ^ d - (a + 1))
  rw [show a + 1 + ((q + 1) ^ d - (a + 1)) = (q + 1) ^ d by omega, cdp_s] at h2
  rw [cls_p]
  rw [List.length_append] at h1 h2 ⊢
  rw [List.length_append]
  omega
theorem gdb_iff {q u v : Nat} {P : PS q} : gdb q P u v = true ↔ gd q P u v := by
  unfold gdb
  exact @decide_eq_true_iff _ (Classical.propDecidable _)
theorem pow2_le {q d : Nat} (hq : isP q) (hd : d ≤ 2) : (q + 1) ^ d ≤ 169 ∧ 1 ≤ (q + 1) ^ d ∧ (q + 1) ^ d ≤ (q + 1) ^ 2 ∧ (q + 1) ^ 2 ≤ 169 := by
  have hl := isP_lo hq
  have h2 : (q + 1) ^ 2 ≤ 13 ^ 2 := Nat.pow_le_pow_left (by omega) 2
  have h1 : (q + 1) ^ d ≤ (q + 1) ^ 2 := Nat.pow_le_pow_right (by omega) hd
  have h0 : 0 < (q + 1) ^ d := Nat.pow_pos (by omega)
  omega
theorem key_I {q u v : Nat} : nI u * nI (q + 1) * nI (q + 1) + nI v = nI (u * (q + 1) ^ 2 + v) := by
  rw [pk_mul, pk_mul, nI_add, Nat.pow_two, Nat.mul_assoc]
theorem l_lw {t : fcS} {q k d u : Nat} {P : PS q} (hq : isP q) (hP : dl P 7) (hp : rp t q) (hk : k ≠ 1) (hd : d ≤ 2) (h1 : (q + 1) ^ d ≤ u) (h2 : u < 2 * (q + 1) ^ d) {base : List (Nat × Nat)} (hlen : (base ++ clu q P ((q + 1) ^ d) u).length ≤ 450) {post : fcS → Prop} (hh : ∀ t2, eqK t t2 k → LI t2 q k (base ++ clu q P ((q + 1) ^ d) u) → post t2) : ∀ c v (t1 : fcS), v + c = (q + 1) ^ d → eqK t t1 k → LI t1 q k (base ++ clp q P u v) → q_X0_listWith_16 k post (c + 1) (nI u) (nI ((q + 1) ^ d)) (Ni q (prem P (pn q u))) (nI v) t1 := by
  have hl := isP_lo hq
  obtain ⟨e1, e2, e3, e4⟩ := pow2_le hq hd
  intro c
  induction c with
  | zero =>
    intro v t1 e ek hL
    have ev : v = (q + 1) ^ d := by omega
    subst ev
    unfold q_X0_listWith_16
    exact ⟨fun _ => hh t1 ek hL, fun z => absurd (nI_le (Nat.le_refl _) (by omega)) z⟩
  | succ c ih =>
    intro v t1 e ek hL
    have hv : v < (q + 1) ^ d := by omega
    unfold q_X0_listWith_16
    refine ⟨fun z => absurd z (nI_ge hv (by omega)), fun _ => ?_⟩
    obtain ⟨r, er⟩ := clp_le q P u v (c + 1)
    rw [e, ← clu_p] at er
    have hlen2 : (base ++ clp q P u v).length + r.length ≤ 450 := by
      rw [er, ← List.append_assoc, List.length_append] at hlen
      exact hlen
    rw [hL.1]
    refine ⟨fun z => ?_, fun z => ?_⟩
    · have hge : 450 ≤ (base ++ clp q P u v).length := (nI_leI (a := 450) (by omega) (by omega)).mp z
      have hr : r = [] := List.length_eq_zero_iff.mp (by omega)
      rw [hr, List.append_nil] at er
      refine hh t1 ek ?_
      rw [er]; exact hL
    · have hlt : (base ++ clp q P u v).length < 450 := by
        rcases Nat.lt_or_ge (base ++ clp q P u v).length 450 with w | w
        · exact w
        · exact absurd (show nI 450 ≤ _ from nI_le w (by omega)) z
      refine s_sqrS hq (eqK_rp ek hk hp) (by omega) (by omega) ?_
      have hgs := gd_S (P := P) hq ⟨7, hP⟩ hd h1 h2 hv
      have hrd : dl (prem P (pn q u)) 2 := by
        obtain ⟨m1, m2⟩ := pn_mon hq h1 h2
        exact dl_mono (pqr_is hq hP m1 (by rw [m2]; exact one_ne0 hq)).2.2.1 hd
      refine ⟨fun w x5 e5 => ?_, fun w => ?_⟩
      · rw [e5, nI_1]
        refine ih (v + 1) t1 (by omega) ek ?_
        rw [clp_s, if_neg, List.append_nil]
        · exact hL
        · intro g
          exact w (by rw [hgs.mp (gdb_iff.mp g)])
      · have hg : gdb q P u v = true := gdb_iff.mpr (hgs.mpr (Ni_inj hq (pw7 hq (by omega)) hrd (sqS_dl q u v) w.symm))
        show (vp_in _ 450) ∧ _
        have hp1 : fgi t1 1 0 = nI (q + 1) := eqK_rp ek hk hp
        refine ⟨by rw [hL.1]; exact vp_in_nI hlt (by omega), fun t8 e8 t9 e9 x10 e10 => ?_⟩
        rw [hp1, key_I, hL.1, nI_clamp (by omega)] at e8
        have g8 : fgi t8 k 4 = nI (base ++ clp q P u v).length := by subst e8; exact hL.1
        rw [g8, nI_1] at e9
        rw [e10, nI_1]
        subst e9 e8
        refine ih (v + 1) _ (by omega) (eqK_tr ek ⟨fun a j h => ?_, fun a h => ?_, rfl⟩) ?_
        · rw [gi_fsi, if_neg h]; rfl
        · exact ga_fsaN t1 h _ _
        · rw [clp_s, if_pos hg, ← List.append_assoc]
          exact LI_push hL u v
theorem s_lw {t t1 : fcS} {q k d u : Nat} {P : PS q} (hq : isP q) (hP : dl P 7) (hp : rp t q) (hk : k ≠ 1) (h2' : fgi t k 2 = Ni q P) (hd : d ≤ 2) (h1 : (q + 1) ^ d ≤ u) (h2 : u < 2 * (q + 1) ^ d) {base : List (Nat × Nat)} (hlen : (base ++ clu q P ((q + 1) ^ d) u).length ≤ 450) (e1 : eqK t t1 k) (hL : LI t1 q k base) {post : fcS → Prop} (hh : ∀ t2, eqK t t2 k → LI t2 q k (base ++ clu q P ((q + 1) ^ d) u) → post t2) : q_X0_listWith t1 k (nI u) (nI ((q + 1) ^ d)) post := by
  have hl := isP_lo hq
  obtain ⟨a1, a2, a3, a4⟩ := pow2_le hq hd
  have hp1 := eqK_rp e1 hk hp
  unfold q_X0_listWith
  rw [e1.1 k 2 (by omega), h2']
  have h7 : (q + 1) ^ 7 < 2 ^ 30 := pw7 hq (by omega)
  have h73 : (q + 1) ^ 3 ≤ (q + 1) ^ 7 := Nat.pow_le_pow_right (by omega) (by omega)
  have h3e : (q + 1) ^ 3 = (q + 1) ^ 2 * (q + 1) := Nat.pow_succ _ _
  have h3m : (q + 1) ^ 2 * 2 ≤ (q + 1) ^ 2 * (q + 1) := Nat.mul_le_mul_left _ (by omega)
  have key : ∀ post' : Int32 → fcS → Prop, post' (Ni q (prem P (pn q u))) t1 → q_X3_rest t1 (Ni q P) (nI u) post' := fun post' h => by
    rw [Ni_pn hq h7 (by omega)]
    exact s_rest hq hp1 h7 hP (pn_dl (by omega)) h
  refine key _ ⟨_, l_lw hq hP hp1 hk hd h1 h2 hlen (fun t2 e2 => hh t2 (eqK_tr e1 e2)) ((q + 1) ^ d) 0 t1 (by omega) (eqK_rf _ _) ?_⟩
  have : clp q P u 0 = [] := rfl
  rw [this, List.append_nil]; exact hL
theorem s_go {t : fcS} {q k g : Nat} {P : PS q} (hq : isP q) (hP : dl P 7) (hp : rp t q) (hk : k ≠ 1) (h2' : fgi t k 2 = Ni q P) (h3' : fgi t k 3 = nI g) (hg : g ≤ 2) (h4 : fgi t k 4 = 0) (hlen : (cls q P g).length ≤ 450) {post : fcS → Prop} (hh : ∀ t2, eqK t t2 k → LI t2 q k (cls q P g) → post t2) : q_X0_goThrough t k post := by
  have hl := isP_lo hq
  have lp : ∀ c d (t1 : fcS), d + c = g + 1 → eqK t t1 k → LI t1 q k (cgp q P d) → q_X0_goThrough_2 k post (c + 1) (nI d) t1 := by
    intro c
    induction c with
    | zero =>
      intro d t1 e e1 hL
      have ed : d = g + 1 := by omega
      subst ed
      unfold q_X0_goThrough_2
      rw [e1.1 k 3 (by omega), h3']
      exact ⟨fun _ => hh t1 e1 hL, fun z => absurd (nI_lt (by omega) (by omega)) z⟩
    | succ c ih =>
      intro d t1 e e1 hL
      unfold q_X0_goThrough_2
      rw [e1.1 k 3 (by omega), h3']
      obtain ⟨a1, a2, a3, a4⟩ := pow2_le (d := d) hq (by omega)
      refine ⟨fun z => absurd z (nI_nlt (by omega) (by omega)), fun _ => s_place (eqK_rp e1 hk hp) (by omega) (by omega) ⟨(q + 1) ^ d + 1, ?_⟩⟩
      have inner : ∀ c' a (t3 : fcS), a + c' = (q + 1) ^ d → eqK t t3 k → LI t3 q k (cgp q P d ++ cdp q P d a) → q_X0_goThrough_21 k post (fun v1_ t_ => q_X0_goThrough_2 k post (c + 1) v1_ t_) (c' + 1) (nI d) (nI ((q + 1) ^ d)) (nI ((q + 1) ^ d + a)) t3 := by
        intro c'
        induction c' with
        | zero =>
          intro a t3 ea e3 hL3
          have ea : a = (q + 1) ^ d := by omega
          subst ea
          unfold q_X0_goThrough_21
          rw [show (2 : Int32) = nI 2 from rfl, pk_mul]
          refine ⟨fun _ x3 ex => ?_, fun z => absurd (nI_le (by omega) (by omega)) z⟩
          rw [ex, nI_1]
          refine ih (d + 1) t3 (by omega) e3 ?_
          rw [cgp_s, cld_p]; exact hL3
        | succ c' ih2 =>
          intro a t3 ea e3 hL3
          unfold q_X0_goThrough_21
          rw [show (2 : Int32) = nI 2 from rfl, pk_mul]
          refine ⟨fun z => absurd z (nI_ge (by omega) (by omega)), fun _ => ?_⟩
          have hle := part_le (g := g) (d := d) (a := a) P (by omega) (by omega)
          refine s_lw hq hP hp hk h2' (d := d) (by omega) (by omega) (by omega) (base := cgp q P d ++ cdp q P d a) (by omega) e3 hL3 (fun t5 e5 hL5 x5 ex => ?_)
          rw [ex, nI_1]
          refine ih2 (a + 1) t5 (by omega) e5 ?_
          rw [cdp_s, ← List.append_assoc]; exact hL5
      have := inner ((q + 1) ^ d) 0 t1 (by omega) e1 (by
        have : cdp q P d 0 = [] := rfl
        rw [this, List.append_nil]; exact hL)
      rw [Nat.add_zero] at this
      exact this
  refine ⟨_, lp (g + 1) 0 t (by omega) (eqK_rf t k) ⟨?_, fun i hi => ?_⟩⟩
  · rw [h4]; rfl
  · exact absurd hi (by have : (cgp q P 0).length = 0 := rfl; omega)
theorem ST_list {q C c : Nat} {cv : Nat → Nat × Nat × Nat} {K : Int32} {T : Int64} {t t2 : fcS} (h : ST q C cv K T t) (hc : c < C) (e : eqK t t2 (21 + 4 * c + 2)) (hL : LI t2 q (21 + 4 * c + 2) (cls q (cvP q (cv c)) (cvg q (cv c)))) : ST q C cv K T t2 := by
  have hC := h.1.2.1
  obtain ⟨e1, e2, e3⟩ := e
  refine ⟨h.1, ⟨?_, ?_, ?_⟩, IR_same h.2.2 (fun k hk => ⟨fun j => e1 k j (by omega), e2 k (by omega), fun j => by unfold fgj; rw [e3], by unfold fgl; rw [e3]⟩)⟩
  · have h1 := h.2.1.1
    unfold CB rp at *
    rw [e1 0 5 (by omega), e1 0 6 (by omega), e1 0 7 (by omega), e1 0 8 (by omega), e1 1 0 (by omega), show fgj t2 0 9 = fgj t 0 9 by unfold fgj; rw [e3]]
    exact h1
  · intro i hi
    have := h.2.1.2.1 i hi
    refine ⟨by rw [e1 _ _ (by omega)]; exact this.1, fun q2 hf he => ?_⟩
    rw [e1 _ _ (by omega)] at he
    obtain ⟨g, hg⟩ := this.2 q2 hf he
    exact ⟨g, tab_gi hg (fun j => e1 _ j (by omega)) (e2 _ (by omega)) (e2 _ (by omega))⟩
  · intro j hj
    have := h.2.1.2.2 j hj
    refine ⟨?_, ?_, ?_⟩
    · have hD := this.1
      unfold CD at hD ⊢
      rw [e1 (21 + 4 * j) 4 (by omega), e1 (21 + 4 * j) 5 (by omega), e1 (21 + 4 * j) 6 (by omega), e1 (21 + 4 * j) 7 (by omega), e1 (21 + 4 * j) 8 (by omega), e1 (21 + 4 * j) 9 (by omega), e1 (21 + 4 * j + 2) 2 (by omega), e1 (21 + 4 * j + 2) 3 (by omega)]
      exact hD
    · have hD := this.2.1
      unfold CS at hD ⊢
      rw [e1 (21 + 4 * j) 3 (by omega), e2 (21 + 4 * j + 1) (by omega)]
      exact hD
    · by_cases cj : j = c
      · rw [cj]; exact Or.inr hL
      · have hD := this.2.2
        unfold CL at hD ⊢
        rw [e1 (21 + 4 * j + 2) 4 (by omega), e2 (21 + 4 * j + 3) (by omega)]
        exact hD
theorem cls_pos {q g : Nat} (hq : isP q) {P : PS q} (hP : isPol P) : (1, 0) ∈ cls q P g := by
  refine cls_mem.mpr ⟨0, by omega, by rw [Nat.pow_zero]; exact Nat.le_refl _, by rw [Nat.pow_zero]; omega, by rw [Nat.pow_zero]; omega, ?_⟩
  rw [gd_S (d := 0) hq hP (by omega) (by rw [Nat.pow_zero]; exact Nat.le_refl _) (by rw [Nat.pow_zero]; omega) (by rw [Nat.pow_zero]; omega)]
  have h1 := (sq_rem (d := 0) (u := 1) (v := 0) hq (by omega) (by rw [Nat.pow_zero]; exact Nat.le_refl _) (by rw [Nat.pow_zero]; omega) (by rw [Nat.pow_zero]; omega)).2
  obtain ⟨n, hP⟩ := hP
  have h2 : dl (prem P (pn q 1)) 0 := by
    rw [pn_1 hq]
    exact (pqr_is (n := 0) hq hP (pc_dl 1) (one_ne0 hq)).2.2.1
  rw [dl_zero h1, dl_zero h2]
theorem s_many {q C c : Nat} {cv : Nat → Nat × Nat × Nat} {K : Int32} {T : Int64} {t : fcS} (hS : ST q C cv K T t) (hc : c < C) (ho : cvd q (cv c) % 2 = 1) {post : Int32 → fcS → Prop} (hh : ∀ t2, ST q C cv K T t2 → LI t2 q (21 + 4 * c + 2) (cls q (cvP q (cv c)) (cvg q (cv c))) → post (nI (cls q (cvP q (cv c)) (cvg q (cv c))).length) t2) : q_X0_many t (21 + 4 * c + 2) post := by
  have hq := hS.1.1
  have hV := hS.1.2.2 c hc
  obtain ⟨-, -, -, -, hP, hP7, hP0, -, -, g1', g2'⟩ := cv_is hq hV
  obtain ⟨⟨-, -, -, -, -, -, d7, d8⟩, -, hCL⟩ := hS.2.1.2.2 c hc
  refine ⟨fun z => ?_, fun z => ?_⟩
  · rcases hCL with w | w
    · exact absurd w z
    · have hL : LI t q (21 + 4 * c + 2) (cls q (cvP q (cv c)) (cvg q (cv c))) := w
      rw [hL.1]
      exact hh t hS hL
  · refine s_go hq hP7 hS.2.1.1.1 (by omega) d7 d8 g2' z (cls_450 hq hV ho) (fun t2 e2 hL => ?_)
    rw [hL.1]
    exact hh t2 (ST_list hS hc e2 hL) hL
theorem fo_odd {q : Nat} {x : Nat × Nat × Nat} (hq : isP q) (hV : cvV q x) : irm (nI (cvd q x)) 2 = nI (cvd q x % 2) := by
  obtain ⟨d3, d6, -⟩ := cv_is hq hV
  exact rem_nI (d := 2) (by omega) (by omega) (by omega)
theorem c_list {q C : Nat} {cv : Nat → Nat × Nat × Nat} {K : Int32} {T : Int64} {t : fcS} (hS : ST q C cv K T t) {x : Int32} {post : Option Nat → fcS → Prop} (h0 : (∀ c, c < C → x = nI c → cvd q (cv c) % 2 = 0) → post none t) (h1 : ∀ c, c < C → x = nI c → cvd q (cv c) % 2 = 1 → fisL (21 + 4 * c + 2) → post (some (21 + 4 * c + 2)) t) : q_X4_listAt t x post := by
  have hC := hS.1.2.1
  refine c_curve hS (fun hno => ⟨fun _ => h0 (fun c hc e => absurd e (hno c hc)), fun i e => (nomatch e)⟩) (fun c hc e hk => ⟨fun z => (nomatch z), fun i2 e2 => ?_⟩)
  obtain rfl := Option.some.inj e2
  refine ⟨hk, by decide, ?_⟩
  rw [(hS.2.1.2.2 c hc).1.2.2.2.1, fo_odd hS.1.1 (hS.1.2.2 c hc)]
  have hm : cvd q (cv c) % 2 = 0 ∨ cvd q (cv c) % 2 = 1 := by omega
  rcases hm with w | w
  · rw [w]
    refine ⟨fun z => absurd rfl z, fun _ => h0 (fun c2 hc2 e2 => ?_)⟩
    rw [e] at e2
    have := (nI_eq (by omega) (by omega)).mp e2
    rw [← this]; exact w
  · rw [w]
    exact ⟨fun _ => h1 c hc e w ⟨by omega, by omega, by omega⟩, fun z => absurd z (by decide)⟩
theorem m_hasCl {q C : Nat} {cv : Nat → Nat × Nat × Nat} {K : Int32} {T : Int64} {t : fcS} (hS : ST q C cv K T t) {x : Int32} {post : Int32 → fcS → Prop} (h0 : (∀ c, c < C → x = nI c → cvd q (cv c) % 2 = 0) → post 0 t) (h1 : ∀ c, c < C → x = nI c → cvd q (cv c) % 2 = 1 → post 1 t) : q_X5_hasClasses t x post := by
  have hC := hS.1.2.1
  refine m_isCurve (ST_6 hS) hC (fun hno => ⟨fun _ => h0 (fun c hc e => absurd e (hno c hc)), fun z => absurd rfl z⟩) (fun c hc e => ⟨fun z => absurd z i0, fun _ => ?_⟩)
  subst e
  refine m_degOf hS.1.1 hC hS.2.2.2.2.1 hc (hS.1.2.2 c hc) ⟨by decide, ?_⟩
  rw [fo_odd hS.1.1 (hS.1.2.2 c hc)]
  have hm : cvd q (cv c) % 2 = 0 ∨ cvd q (cv c) % 2 = 1 := by omega
  rcases hm with w | w
  · rw [w]
    refine ⟨fun _ => h0 (fun c2 hc2 e2 => ?_), fun z => absurd z (by decide)⟩
    have := (nI_eq (by omega) (by omega)).mp e2
    rw [← this]; exact w
  · rw [w]
    exact ⟨fun z => absurd rfl z, fun _ => h1 c hc rfl w⟩
