/-! the reference's list -/
def LR (t : fcS) (l : List (Nat × Nat)) : Prop := fgi t 53 17 = nI l.length ∧ ∀ i, i < l.length → fga t 62 i = nI (pr l i).1 ∧ fga t 63 i = nI (pr l i).2
def eqN (t t2 : fcS) : Prop := (∀ a j, ¬ (a = 53 ∧ (j = 16 ∨ j = 17)) → fgi t2 a j = fgi t a j) ∧ (∀ k, k ≠ 60 → k ≠ 62 → k ≠ 63 → fga t2 k = fga t k) ∧ t2.2.2 = t.2.2
theorem eqN_rf (t : fcS) : eqN t t := ⟨fun _ _ _ => rfl, fun _ _ _ _ => rfl, rfl⟩
theorem eqN_tr {t t2 t3 : fcS} (h : eqN t t2) (h2 : eqN t2 t3) : eqN t t3 := ⟨fun a j x => (h2.1 a j x).trans (h.1 a j x), fun k a b c => (h2.2.1 k a b c).trans (h.2.1 k a b c), h2.2.2.trans h.2.2⟩
theorem eqN_W {t t2 : fcS} (h : eqW t t2) : eqN t t2 := ⟨fun a j _ => eqW_gi h a j, fun k a _ _ => h.2.2 k a, h.2.1⟩
theorem RB_N {t t2 : fcS} {q : Nat} (h : RB t q) (e : eqN t t2) : RB t2 q := by
  unfold RB mp at *
  rw [e.1 53 1 (by omega), e.1 53 2 (by omega), e.2.1 54 (by omega) (by omega) (by omega), e.2.1 55 (by omega) (by omega) (by omega)]
  exact h
theorem RC_N {t t2 : fcS} {q C : Nat} {cv : Nat → Nat × Nat × Nat} (h : RC t q C cv) (e : eqN t t2) : RC t2 q C cv := by
  unfold RC at *
  rw [e.2.1 56 (by omega) (by omega) (by omega), e.2.1 57 (by omega) (by omega) (by omega), e.2.1 58 (by omega) (by omega) (by omega), e.2.1 59 (by omega) (by omega) (by omega)]
  exact h
theorem LR_W {t t2 : fcS} {l : List (Nat × Nat)} (h : LR t l) (e : eqW t t2) : LR t2 l := by
  unfold LR at *
  rw [eqW_gi e, e.2.2 62 (by omega), e.2.2 63 (by omega)]
  exact h
theorem ST_N {q C c : Nat} {cv : Nat → Nat × Nat × Nat} {K : Int32} {T : Int64} {t t2 : fcS} (h : ST q C cv K T t) (e : eqN t t2) (hc : c < C) (h16 : fgi t2 53 16 = nI c) (hL : LR t2 (cls q (cvP q (cv c)) (cvg q (cv c)))) : ST q C cv K T t2 := by
  have sC : sameC t t2 := fun k hk => ⟨fun j => e.1 k j (by omega), e.2.1 k (by omega) (by omega) (by omega), fun j => by unfold fgj; rw [e.2.2], by unfold fgl; rw [e.2.2]⟩
  refine ⟨h.1, IC_same h.2.1 h.1.2.1 sC, RB_N h.2.2.1 e, ?_, RC_N h.2.2.2.2.1 e, Or.inr ⟨c, hc, h16, hL.1, hL.2⟩, ?_⟩
  · have hS := h.2.2.2.1
    unfold RS at *
    rw [e.1 53 15 (by omega), e.2.1 61 (by omega) (by omega) (by omega)]
    exact hS
  · obtain ⟨k1, k2, k3, k4⟩ := h.2.2.2.2.2.2
    exact ⟨(e.1 53 5 (by omega)).trans k1, (e.1 53 6 (by omega)).trans k2, (e.1 53 11 (by omega)).trans k3, by unfold fgj; rw [e.2.2]; exact k4⟩
theorem fin_isub {q : Nat} (hq : isP q) (X Y : Nat) : ((X : Int) - (Y : Int)) % ((q + 1 : Nat) : Int) = ((Fin.ofNat (q + 1) X - Fin.ofNat (q + 1) Y).val : Int) := by
  have e : (Fin.ofNat (q + 1) X - Fin.ofNat (q + 1) Y).val = ((q + 1) - Y % (q + 1) + X % (q + 1)) % (q + 1) := rfl
  rw [e]
  rcases hq with z | z | z | z | z <;> subst z <;> omega
theorem m_lf {t : fcS} {q X Y : Nat} (hq : isP q) (hp : mp t q) (hX : X ≤ 100000) (hY : Y ≤ 100000) {post : Int32 → fcS → Prop} (h : post (nI (Fin.ofNat (q + 1) X - Fin.ofNat (q + 1) Y).val) t) : q_X5_left t (nI X - nI Y) post := by
  have e : (nI X - nI Y).toInt = (X : Int) - (Y : Int) := by
    have a1 : (nI X).toInt = (X : Int) := nI_toInt (by omega)
    have a2 : (nI Y).toInt = (Y : Int) := nI_toInt (by omega)
    rw [fb_subI (by rw [a1, a2]; omega) (by rw [a1, a2]; omega), a1, a2]
  refine m_left hq hp (by rw [e]; omega) (by rw [e]; omega) ?_ h
  rw [e]; exact fin_isub hq X Y
theorem nI_fin {q : Nat} (hq : isP q) {a b : Fin (q + 1)} : nI a.val = nI b.val ↔ a = b := by
  have hl := isP_lo hq
  rw [nI_eq (by omega) (by omega)]
  exact Fin.val_inj
theorem dl_eq1 {q : Nat} {a b : PS q} (ha : dl a 1) (hb : dl b 1) : a = b ↔ a 0 = b 0 := by
  constructor
  · intro h; rw [h]
  · intro h
    funext k
    by_cases z : k = 0
    · rw [z]; exact h
    · rw [ha k (by omega), hb k (by omega)]
theorem dl_eq2 {q : Nat} {a b : PS q} (ha : dl a 2) (hb : dl b 2) : a = b ↔ a 0 = b 0 ∧ a 1 = b 1 := by
  constructor
  · intro h; rw [h]; exact ⟨rfl, rfl⟩
  · intro h
    funext k
    by_cases z : k = 0
    · rw [z]; exact h.1
    · by_cases z1 : k = 1
      · rw [z1]; exact h.2
      · rw [ha k (by omega), hb k (by omega)]
theorem m_leaves {t : fcS} {q d u v : Nat} {P : PS q} (hq : isP q) (hp : mp t q) (hP : dl P 7) (hd : d ≤ 2) (h1 : (q + 1) ^ d ≤ u) (h2 : u < 2 * (q + 1) ^ d) (hv : v < (q + 1) ^ d) (r20 : rwI t 20 (pn q u)) (r26 : rwI t 26 (prem P (pn q u))) {post : Int32 → fcS → Prop} (k1 : gd q P u v → post 1 t) (k0 : ¬ gd q P u v → post 0 t) : q_X5_leaves t (nI (v % (q + 1))) (nI (v / (q + 1))) (nI d) post := by
  have hl := isP_lo hq
  have hgs := gd_S (P := P) hq ⟨7, hP⟩ hd h1 h2 hv
  obtain ⟨m1, m2⟩ := pn_mon hq h1 h2
  have hrd := (pqr_is hq hP m1 (by rw [m2]; exact one_ne0 hq)).2.2.1
  have hsd := (sq_rem hq hd h1 h2 hv).2
  have hm := Nat.mod_lt v (show 0 < q + 1 by omega)
  have c320 : Int32.toNatClampNeg 320 = 320 := by decide
  have c321 : Int32.toNatClampNeg 321 = 321 := by decide
  have c416 : Int32.toNatClampNeg 416 = 416 := by decide
  have c417 : Int32.toNatClampNeg 417 = 417 := by decide
  have w320 : fga t 60 320 = nI (pn q u 0).val := r20.2 0 (by omega)
  have w321 : fga t 60 321 = nI (pn q u 1).val := r20.2 1 (by omega)
  have w416 : fga t 60 416 = nI (prem P (pn q u) 0).val := r26.2 0 (by omega)
  have w417 : fga t 60 417 = nI (prem P (pn q u) 1).val := r26.2 1 (by omega)
  unfold q_X5_leaves
  rw [c320, c321, c416, c417, w320]
  match d, hd with
  | 0, _ =>
    refine ⟨fun z => absurd z (by decide), fun _ => ⟨fun _ => k1 (hgs.mpr ?_), fun z => absurd rfl z⟩⟩
    rw [dl_zero hrd, dl_zero hsd]
  | 1, _ =>
    refine ⟨fun z => absurd z (by decide), fun _ => ⟨fun z => absurd z (by decide), fun _ => ?_⟩⟩
    rw [Nat.pow_one] at hv
    rw [pk_mul, show nI (v % (q + 1) * (v % (q + 1))) = nI (v % (q + 1) * (v % (q + 1))) - nI 0 from (Int32.sub_zero _).symm]
    have b1 : v % (q + 1) * (v % (q + 1)) ≤ 12 * 12 := Nat.mul_le_mul (by omega) (by omega)
    have es : Fin.ofNat (q + 1) (v % (q + 1) * (v % (q + 1))) - Fin.ofNat (q + 1) 0 = sqS q u v 0 := by
      rw [sqS_0, Nat.div_eq_of_lt hv, fo_mul, fo_mod, fo_0]
      generalize Fin.ofNat (q + 1) v = a
      generalize Fin.ofNat (q + 1) u = b
      grind
    refine m_lf hq hp (by omega) (by omega) ?_
    rw [es, w416]
    refine ⟨vp_in_nI (n := 416) (by omega) (by omega), fun z => k0 (fun g => z ?_), fun z => k1 (hgs.mpr ((dl_eq1 hrd hsd).mpr ?_))⟩
    · rw [hgs.mp g]
    · exact ((nI_fin hq).mp z).symm
  | 2, _ =>
    have e2 : (q + 1) ^ 2 = (q + 1) * (q + 1) := Nat.pow_two _
    have hv1 : v / (q + 1) < q + 1 := Nat.div_lt_of_lt_mul (by rw [← e2]; exact hv)
    have b1 : v % (q + 1) * (v % (q + 1)) ≤ 12 * 12 := Nat.mul_le_mul (by omega) (by omega)
    have b2 : v / (q + 1) * (v / (q + 1)) ≤ 12 * 12 := Nat.mul_le_mul (by omega) (by omega)
    have hu0 := (pn q u 0).isLt
    have hu1 := (pn q u 1).isLt
    have b3 : v / (q + 1) * (v / (q + 1)) * (pn q u 0).val ≤ 12 * 12 * 12 := Nat.mul_le_mul b2 (by omega)
    have b4 : v / (q + 1) * (v / (q + 1)) * (pn q u 1).val ≤ 12 * 12 * 12 := Nat.mul_le_mul b2 (by omega)
    have b5 : 2 * (v % (q + 1)) * (v / (q + 1)) ≤ 24 * 12 := Nat.mul_le_mul (by omega) (by omega)
    have eu0 : Fin.ofNat (q + 1) (pn q u 0).val = Fin.ofNat (q + 1) u := by
      rw [pn_val, Nat.pow_zero, Nat.div_one, fo_mod]
    have eu1 : Fin.ofNat (q + 1) (pn q u 1).val = Fin.ofNat (q + 1) (u / (q + 1)) := by
      rw [pn_val, Nat.pow_one, fo_mod]
    have es0 : Fin.ofNat (q + 1) (v % (q + 1) * (v % (q + 1))) - Fin.ofNat (q + 1) (v / (q + 1) * (v / (q + 1)) * (pn q u 0).val) = sqS q u v 0 := by
      rw [sqS_0, fo_mul, fo_mul, fo_mul, fo_mod, eu0]
    have es1 : Fin.ofNat (q + 1) (2 * (v % (q + 1)) * (v / (q + 1))) - Fin.ofNat (q + 1) (v / (q + 1) * (v / (q + 1)) * (pn q u 1).val) = sqS q u v 1 := by
      rw [sqS_1, fo_mul, fo_mul, fo_mul, fo_mul, fo_mod, eu1, show Fin.ofNat (q + 1) 2 = Fin.ofNat (q + 1) 1 + Fin.ofNat (q + 1) 1 from fo_add q 1 1, show Fin.ofNat (q + 1) 1 = 1 from rfl]
      generalize Fin.ofNat (q + 1) v = a
      generalize Fin.ofNat (q + 1) (v / (q + 1)) = b
      generalize Fin.ofNat (q + 1) (u / (q + 1)) = c
      grind
    refine ⟨fun _ => ⟨vp_in_nI (n := 320) (by omega) (by omega), ?_⟩, fun z => absurd (by decide) z⟩
    rw [pk_mul, pk_mul, pk_mul]
    refine m_lf hq hp (by omega) (by omega) ⟨vp_in_nI (n := 321) (by omega) (by omega), ?_⟩
    rw [w321, show (2 : Int32) = nI 2 from rfl, pk_mul, pk_mul, pk_mul]
    refine m_lf hq hp (by omega) (by omega) ⟨vp_in_nI (n := 416) (by omega) (by omega), ?_⟩
    rw [es0, es1, w416, w417]
    refine ⟨fun z => k0 (fun g => z ?_), fun z => ⟨vp_in_nI (n := 417) (by omega) (by omega), fun z1 => k0 (fun g => z1 ?_), fun z1 => k1 (hgs.mpr ((dl_eq2 hrd hsd).mpr ⟨?_, ?_⟩))⟩⟩
    · rw [hgs.mp g]
    · rw [hgs.mp g]
    · exact ((nI_fin hq).mp z).symm
    · exact ((nI_fin hq).mp z1).symm
theorem LR_push {t : fcS} {l : List (Nat × Nat)} (h : LR t l) (u v : Nat) : LR (fsi (fsa (fsa t 62 l.length (nI u)) 63 l.length (nI v)) 53 17 (nI (l.length + 1))) (l ++ [(u, v)]) := by
  refine ⟨?_, fun i hi => ?_⟩
  · rw [gi_same, List.length_append]; rfl
  · rw [List.length_append] at hi
    have hi : i < l.length + 1 := hi
    show fga (fsa (fsa t 62 l.length (nI u)) 63 l.length (nI v)) 62 i = _ ∧ fga (fsa (fsa t 62 l.length (nI u)) 63 l.length (nI v)) 63 i = _
    rw [ga_fsaN _ (by omega), ga_fsaG, ga_fsaG, ga_fsaN _ (by omega), pr_app l (u, v) i hi]
    by_cases c : i < l.length
    · rw [if_pos c, if_neg (by omega), if_neg (by omega)]; exact h.2 i c
    · rw [if_neg c, if_pos (by omega), if_pos (by omega)]; exact ⟨rfl, rfl⟩
theorem rwI_same {q a : Nat} {t t2 : fcS} {f : PS q} (h : rwI t a f) (e : fga t2 60 = fga t 60) : rwI t2 a f := ⟨h.1, fun i hi => by rw [e]; exact h.2 i hi⟩
theorem m_73 {t : fcS} {q d u cc : Nat} {P : PS q} (hq : isP q) (hP : dl P 7) (hB : RB t q) (hd : d ≤ 2) (h1 : (q + 1) ^ d ≤ u) (h2 : u < 2 * (q + 1) ^ d) {base : List (Nat × Nat)} (hlen : (base ++ clu q P ((q + 1) ^ d) u).length ≤ 450) {post : fcS → Prop} {k23 : Int32 → Int32 → Int32 → fcS → Prop} {k35 : Int32 → Int32 → Int32 → Int32 → fcS → Prop} (hh : ∀ t2, eqN t t2 → fgi t2 53 16 = fgi t 53 16 → LR t2 (base ++ clu q P ((q + 1) ^ d) u) → k35 (nI cc) (nI ((q + 1) ^ d)) (nI d) (nI (u + 1)) t2) : ∀ c v (t1 : fcS), v + c = (q + 1) ^ d → eqN t t1 → fgi t1 53 16 = fgi t 53 16 → rwI t1 20 (pn q u) → rwI t1 26 (prem P (pn q u)) → LR t1 (base ++ clp q P u v) → q_X5_needClasses_73 post k23 k35 (c + 1) (nI cc) (nI ((q + 1) ^ d)) (nI d) (nI u) (nI v) t1 := by
  have hl := isP_lo hq
  obtain ⟨e1, e2, e3, e4⟩ := pow2_le hq hd
  intro c
  induction c with
  | zero =>
    intro v t1 e ek e16 r20 r26 hL
    have ev : v = (q + 1) ^ d := by omega
    subst ev
    unfold q_X5_needClasses_73
    refine ⟨fun _ x10 ex => ?_, fun z => absurd (nI_le (Nat.le_refl _) (by omega)) z⟩
    rw [ex, nI_1]
    exact hh t1 ek e16 hL
  | succ c ih =>
    intro v t1 e ek e16 r20 r26 hL
    have hv : v < (q + 1) ^ d := by omega
    have hp1 : fgi t1 53 1 = nI (q + 1) := (RB_N hB ek).1
    obtain ⟨r, er⟩ := clp_le q P u v (c + 1)
    rw [e, ← clu_p] at er
    have hlen2 : (base ++ clp q P u v).length + r.length ≤ 450 := by
      rw [er, ← List.append_assoc, List.length_append] at hlen
      exact hlen
    unfold q_X5_needClasses_73
    rw [hp1, rem_nI (by omega) (by omega) (by omega), pk_div (by omega) (by omega) (by omega)]
    refine ⟨fun z => absurd z (nI_ge hv (by omega)), fun _ => ⟨nI_ne0 (by omega) (by omega), nI_ne0 (by omega) (by omega), ?_⟩⟩
    refine m_leaves hq (RB_N hB ek).1 hP hd h1 h2 hv r20 r26 (fun g => ⟨fun z => absurd z i0, fun _ => ?_⟩) (fun g => ⟨fun _ x13 ex => ?_, fun z => absurd rfl z⟩)
    · rw [hL.1]
      refine ⟨vp_in_nI (by omega) (by omega), fun t14 e14 => ?_⟩
      have g14 : fgi t14 53 17 = nI (base ++ clp q P u v).length := by subst e14; exact hL.1
      rw [g14]
      refine ⟨vp_in_nI (by omega) (by omega), fun t15 e15 t16 e16' x17 ex => ?_⟩
      have g15 : fgi t15 53 17 = nI (base ++ clp q P u v).length := by subst e15; exact g14
      rw [nI_clamp (by omega)] at e14 e15
      rw [g15, nI_1] at e16'
      rw [ex, nI_1]
      subst e16' e15 e14
      refine ih (v + 1) _ (by omega) (eqN_tr ek ⟨fun a j h => ?_, fun k a b c => ?_, rfl⟩) ?_ (rwI_same r20 ?_) (rwI_same r26 ?_) ?_
      · rw [gi_fsi, if_neg (by omega)]; rfl
      · show fga (fsa (fsa t1 62 _ _) 63 _ _) k = _
        rw [ga_fsaN _ c, ga_fsaN _ b]
      · rw [gi_fsi, if_neg (by omega)]; exact e16
      · show fga (fsa (fsa t1 62 _ _) 63 _ _) 60 = _
        rw [ga_fsaN _ (by omega), ga_fsaN _ (by omega)]
      · show fga (fsa (fsa t1 62 _ _) 63 _ _) 60 = _
        rw [ga_fsaN _ (by omega), ga_fsaN _ (by omega)]
      · rw [clp_s, if_pos (gdb_iff.mpr g), ← List.append_assoc]
        exact LR_push hL u v
    · rw [ex, nI_1]
      refine ih (v + 1) t1 (by omega) ek e16 r20 r26 ?_
      rw [clp_s, if_neg (fun z => g (gdb_iff.mp z)), List.append_nil]
      exact hL
theorem m_23 {t : fcS} {q C cc : Nat} {cv : Nat → Nat × Nat × Nat} (hq : isP q) (hC : C ≤ 8) (hc : cc < C) (hV : cvV q (cv cc)) (ho : cvd q (cv cc) % 2 = 1) (hB : RB t q) (hR : RC t q C cv) {post : fcS → Prop} (hh : ∀ t2, eqN t t2 → fgi t2 53 16 = fgi t 53 16 → LR t2 (cls q (cvP q (cv cc)) (cvg q (cv cc))) → post t2) : ∀ c d (t1 : fcS), d + c = cvg q (cv cc) + 1 → eqN t t1 → fgi t1 53 16 = fgi t 53 16 → LR t1 (cgp q (cvP q (cv cc)) d) → q_X5_needClasses_23 post (c + 1) (nI cc) (nI ((q + 1) ^ d)) (nI d) t1 := by
  have hl := isP_lo hq
  obtain ⟨-, -, -, -, hP, hP7, hP0, -, -, g1', g2'⟩ := cv_is hq hV
  have hlen := cls_450 hq hV ho
  have p30 : ∀ d, d ≤ 3 → (q + 1) ^ d < 2 ^ 30 := fun d hd => pw7 hq (by omega)
  intro c
  induction c with
  | zero =>
    intro d t1 e e1 e16 hL
    have ed : d = cvg q (cv cc) + 1 := by omega
    subst ed
    unfold q_X5_needClasses_23
    refine m_genOf hq hC (RC_N hR e1) hc hV ⟨fun _ => hh t1 e1 e16 hL, fun z => absurd (nI_lt (by omega) (by omega)) z⟩
  | succ c ih =>
    intro d t1 e e1 e16 hL
    have hd2 : d ≤ 2 := by omega
    obtain ⟨a1, a2, a3, a4⟩ := pow2_le (d := d) hq hd2
    unfold q_X5_needClasses_23
    refine m_genOf hq hC (RC_N hR e1) hc hV ⟨fun z => absurd z (nI_nlt (by omega) (by omega)), fun _ => ⟨(q + 1) ^ d + 1, ?_⟩⟩
    have inner : ∀ c' a (t3 : fcS), a + c' = (q + 1) ^ d → eqN t t3 → fgi t3 53 16 = fgi t 53 16 → LR t3 (cgp q (cvP q (cv cc)) d ++ cdp q (cvP q (cv cc)) d a) → q_X5_needClasses_35 post (fun v1_ v2_ v3_ t_ => q_X5_needClasses_23 post (c + 1) v1_ v2_ v3_ t_) (c' + 1) (nI cc) (nI ((q + 1) ^ d)) (nI d) (nI ((q + 1) ^ d + a)) t3 := by
      intro c'
      induction c' with
      | zero =>
        intro a t3 ea e3 e163 hL3
        have ea : a = (q + 1) ^ d := by omega
        subst ea
        unfold q_X5_needClasses_35
        rw [show (2 : Int32) = nI 2 from rfl, pk_mul, show fgi t3 53 1 = nI (q + 1) from (RB_N hB e3).1, pk_mul, ← Nat.pow_succ]
        refine ⟨fun _ x5 ex5 x6 ex6 => ?_, fun z => absurd (nI_le (by omega) (by omega)) z⟩
        rw [ex5, ex6, nI_1]
        refine ih (d + 1) t3 (by omega) e3 e163 ?_
        rw [cgp_s, cld_p]; exact hL3
      | succ c' ih2 =>
        intro a t3 ea e3 e163 hL3
        have hq16 : 2 * (q + 1) ^ d < (q + 1) ^ 16 := by
          have x1 : (q + 1) ^ 3 ≤ (q + 1) ^ 16 := Nat.pow_le_pow_right (by omega) (by omega)
          have x2 : (q + 1) ^ 3 = (q + 1) ^ 2 * (q + 1) := Nat.pow_succ _ _
          have x3 : (q + 1) ^ 2 * 3 ≤ (q + 1) ^ 2 * (q + 1) := Nat.mul_le_mul_left _ (by omega)
          omega
        unfold q_X5_needClasses_35
        rw [show (2 : Int32) = nI 2 from rfl, pk_mul]
        refine ⟨fun z => absurd z (nI_ge (by omega) (by omega)), fun _ => ?_⟩
        have hB3 := RB_N hB e3
        refine m_load (a := 20) hq hB3.1 (by omega) (by omega) (by omega) (fun t4 e4 r4 => ?_)
        have n4 := eqN_tr e3 (eqN_W (eqW_L e4))
        refine m_loadOwn (a := 23) hq hC (RC_N hR n4) hc hV (by omega) (fun t5 e5 r5 => ?_)
        have r520 := eqL_row e5 (by simp) r4
        have n5 := eqN_tr n4 (eqN_W (eqW_L e5))
        refine m_div (rq := 25) (rr := 26) (a := 23) (b := 20) hq (RB_N hB n5).1 (by omega) (by omega) (by omega) (by omega) (by omega) (by omega) (by omega) (by omega) (by omega) r5 r520 ?_ (fun t6 e6 _ r26 => ⟨(q + 1) ^ d + 1, ?_⟩)
        · exact mon_ne hq (pn_mon (n := d) hq (by omega) (by omega)).2
        have r620 := eqL_row e6 (by simp) r520
        have n6 := eqN_tr n5 (eqN_W (eqW_L e6))
        have w6 : eqW t3 t6 := eqW_tr (eqW_L e4) (eqW_tr (eqW_L e5) (eqW_L e6))
        have hle := part_le (g := cvg q (cv cc)) (d := d) (a := a) (cvP q (cv cc)) (by omega) (by omega)
        refine m_73 (base := cgp q (cvP q (cv cc)) d ++ cdp q (cvP q (cv cc)) d a) hq hP7 (RB_N hB n6) hd2 (by omega) (by omega) (by omega) (fun t7 e7 e167 hL7 => ?_) ((q + 1) ^ d) 0 t6 (by omega) (eqN_rf t6) rfl r620 r26 ?_
        · refine ih2 (a + 1) t7 (by omega) (eqN_tr n6 e7) ?_ ?_
          · rw [e167, eqW_gi w6]; exact e163
          · rw [cdp_s, ← List.append_assoc]; exact hL7
        · have : clp q (cvP q (cv cc)) ((q + 1) ^ d + a) 0 = [] := rfl
          rw [this, List.append_nil]
          exact LR_W hL3 w6
    have := inner ((q + 1) ^ d) 0 t1 (by omega) e1 e16 (by
      have : cdp q (cvP q (cv cc)) d 0 = [] := rfl
      rw [this, List.append_nil]; exact hL)
    rw [Nat.add_zero] at this
    exact this
theorem m_needCl {q C c : Nat} {cv : Nat → Nat × Nat × Nat} {K : Int32} {T : Int64} {t : fcS} (hS : ST q C cv K T t) (hc : c < C) (ho : cvd q (cv c) % 2 = 1) {post : fcS → Prop} (hh : ∀ t2, ST q C cv K T t2 → LR t2 (cls q (cvP q (cv c)) (cvg q (cv c))) → fgi t2 53 16 = nI c → post t2) : q_X5_needClasses t (nI c) post := by
  have hq := hS.1.1
  have hC := hS.1.2.1
  have hV := hS.1.2.2 c hc
  refine ⟨fun z t1 e1 t2 e2 => ?_, fun z => ?_⟩
  · have n2 : eqN t t2 := by
      subst e2 e1
      exact ⟨fun a j h => by rw [gi_fsi, if_neg (by omega), gi_fsi, if_neg (by omega)], fun _ _ _ _ => rfl, rfl⟩
    have g16 : fgi t2 53 16 = nI c := by subst e2 e1; rw [gi_fsi, if_neg (by omega)]; exact gi_same _ _ _ _
    have g17 : fgi t2 53 17 = 0 := by subst e2; exact gi_same _ _ _ _
    have := m_23 hq hC hc hV ho (RB_N hS.2.2.1 n2) (RC_N hS.2.2.2.2.1 n2) (fun t3 e3 e16 hL => hh t3 (ST_N hS (eqN_tr n2 e3) hc (e16.trans g16) hL) hL (e16.trans g16)) (cvg q (cv c) + 1) 0 t2 (by omega) (eqN_rf t2) rfl ⟨g17, fun i hi => absurd hi (by have : (cgp q (cvP q (cv c)) 0).length = 0 := rfl; omega)⟩
    rw [Nat.pow_zero] at this
    exact ⟨_, this⟩
  · rcases hS.2.2.2.2.2.1 with w | ⟨c2, hc2, w1, w2, w3⟩
    · rw [w] at z
      exfalso
      have := congrArg Int32.toInt z
      rw [nI_toInt (by omega), show (-9 : Int32).toInt = -9 by decide] at this
      omega
    · rw [w1] at z
      have ec := (nI_eq (by omega) (by omega)).mp z
      subst ec
      exact hh t hS ⟨w2, w3⟩ w1
