/-! order -/
def isK {q d g : Nat} {P : PS q} (_ : cvO P d g) (y : GC P g) (a b : Nat) : Prop := (a, b) ∈ cls q P g ∧ y.1 = (pn q a, pn q b)
theorem isK_ex {q d g : Nat} {P : PS q} (h : cvO P d g) (y : GC P g) : ∃ a b, isK h y a b := by
  obtain ⟨a, b, hm, ea, eb, -⟩ := C_cls h.1 ⟨_, h.2.1⟩ y.2
  exact ⟨a, b, hm, by rw [ea, eb]⟩
theorem isK_uq {q d g a b a' b' : Nat} {P : PS q} (h : cvO P d g) {y : GC P g} (h1 : isK h y a b) (h2 : isK h y a' b') : a = a' ∧ b = b' := by
  have hq := h.1
  have hl := isP_lo hq
  have l1 := pair_lt hq h1.1
  have l2 := pair_lt hq h2.1
  have hs : (q + 1) ^ (g + 1) = (q + 1) ^ g * (q + 1) := Nat.pow_succ _ _
  have h4 : (q + 1) ^ g * 2 ≤ (q + 1) ^ g * (q + 1) := Nat.mul_le_mul_left _ (by omega)
  have e := h1.2.symm.trans h2.2
  exact ⟨pn_inj (n := g + 1) (by omega) (by omega) (congrArg Prod.fst e), pn_inj (n := g + 1) (by omega) (by omega) (congrArg Prod.snd e)⟩
theorem isK_e {q d g : Nat} {P : PS q} (h : cvO P d g) : isK h (gen h) 1 0 := by
  refine ⟨cls_pos h.1 ⟨_, h.2.1⟩, ?_⟩
  show (pl_c 1, pz) = _
  rw [pn_1 h.1, pn_0]
theorem isK_iff {q d g a b : Nat} {P : PS q} (h : cvO P d g) {y : GC P g} (h1 : isK h y a b) : y = gen h ↔ a * (q + 1) ^ 2 + b = 1 * (q + 1) ^ 2 + 0 := by
  have hq := h.1
  have bd := cls_bd hq h.2.2.2.2.2.1 h1.1
  have he := isK_e h
  constructor
  · intro e
    subst e
    obtain ⟨x1, x2⟩ := isK_uq h h1 he
    rw [x1, x2]
  · intro e
    obtain ⟨x1, x2⟩ := key_inj bd.2 (Nat.pow_pos (by omega)) e
    subst x1 x2
    exact Subtype.ext (h1.2.trans he.2.symm)
theorem s_sumG {t : fcS} {q k d g a b w z a1 b1 : Nat} {P : PS q} (h : cvO P d g) (hp : rp t q) (h2' : fgi t k 2 = Ni q P) (h3' : fgi t k 3 = nI g) {x y : GC P g} (hx : isK h x a b) (hy : isK h y w z) (hxy : isK h (gop h x y) a1 b1) {post : Int32 → fcS → Prop} (hh : post (nI (a1 * (q + 1) ^ 2 + b1)) t) : q_X0_sumOf t k (nI (a * (q + 1) ^ 2 + b)) (nI (w * (q + 1) ^ 2 + z)) post := by
  refine s_sumOf h hp h2' h3' hx.1 hy.1 hxy.1 ?_ hh
  rw [← hx.2, ← hy.2, ← hxy.2]
  rfl
theorem s_mulOf {t : fcS} {q k d g a b n : Nat} {P : PS q} (h : cvO P d g) (hp : rp t q) (h2' : fgi t k 2 = Ni q P) (h3' : fgi t k 3 = nI g) (hn : n < 2 ^ 30) {x : GC P g} (hx : isK h x a b) {post : Int32 → fcS → Prop} (hh : ∀ a1 b1, isK h (gm (gop h) (gen h) x n) a1 b1 → post (nI (a1 * (q + 1) ^ 2 + b1)) t) : q_X0_multipleOf t k (nI (a * (q + 1) ^ 2 + b)) (nI n) post := by
  have hG := g_gr h
  have lp : ∀ F L s D as bs ad bd, L < F → L ≤ n → s + D * L = n → isK h (gm (gop h) (gen h) x s) as bs → isK h (gm (gop h) (gen h) x D) ad bd → q_X0_multipleOf_13 k post F (nI (as * (q + 1) ^ 2 + bs)) (nI (ad * (q + 1) ^ 2 + bd)) (nI L) t := by
    intro F
    induction F with
    | zero => intro L _ _ _ _ _ _ hL; omega
    | succ F ih =>
      intro L s D as bs ad bd hL hLn e hs hD
      unfold q_X0_multipleOf_13
      refine ⟨fun z => ?_, fun z => ⟨by decide, ?_⟩⟩
      · have L0 := nI_le0 (by omega) z
        subst L0
        rw [Nat.mul_zero, Nat.add_zero] at e
        subst e
        exact hh as bs hs
      · have Lp := nI_gt0 z
        have er : irm (nI L) 2 = nI (L % 2) := rem_nI (d := 2) (by omega) (by omega) (by omega)
        obtain ⟨a2, b2, h2⟩ := isK_ex h (gop h (gm (gop h) (gen h) x D) (gm (gop h) (gen h) x D))
        have tail : ∀ s' as' bs', s' + (D + D) * (L / 2) = n → isK h (gm (gop h) (gen h) x s') as' bs' → q_X0_multipleOf_34 k post (fun v3_ v4_ v5_ t_ => q_X0_multipleOf_13 k post F v3_ v4_ v5_ t_) (nI (as' * (q + 1) ^ 2 + bs')) (nI (ad * (q + 1) ^ 2 + bd)) (nI L) t := fun s' as' bs' e' hs' => by
          refine s_sumG h hp h2' h3' hD hD h2 ⟨by decide, fun x5 e5 => ?_⟩
          rw [e5, show (2 : Int32) = nI 2 from rfl, pk_div (by omega) (by omega) (by omega)]
          refine ih (L / 2) s' (D + D) as' bs' a2 b2 (by omega) (by omega) e' hs' ?_
          rw [gm_add hG]; exact h2
        rw [er]
        have hm : L % 2 = 0 ∨ L % 2 = 1 := by omega
        have hdm := Nat.div_add_mod L 2
        rcases hm with y | y
        · rw [y]
          refine ⟨fun _ => tail s as bs ?_ hs, fun z => absurd z (by decide)⟩
          rw [← e]
          rw [y, Nat.add_zero] at hdm
          have : D * L = D * (2 * (L / 2)) := by rw [hdm]
          rw [this, ← Nat.mul_assoc, Nat.mul_two]
        · rw [y]
          obtain ⟨a3, b3, h3⟩ := isK_ex h (gop h (gm (gop h) (gen h) x s) (gm (gop h) (gen h) x D))
          refine ⟨fun z => absurd rfl z, fun _ => s_sumG h hp h2' h3' hs hD h3 (tail (s + D) a3 b3 ?_ (by rw [gm_add hG]; exact h3))⟩
          rw [← e]
          rw [y] at hdm
          have : D * L = D * (2 * (L / 2) + 1) := by rw [hdm]
          rw [this, Nat.mul_add, ← Nat.mul_assoc, Nat.mul_two, Nat.mul_one]
          omega
  have e0 : isK h (gm (gop h) (gen h) x 0) 1 0 := isK_e h
  have e1 : isK h (gm (gop h) (gen h) x 1) a b := by rw [gm_1 hG]; exact hx
  have := lp (n + 1) n 0 1 1 0 a b (by omega) (Nat.le_refl _) (by omega) e0 e1
  have hp' : fgi t 1 0 = nI (q + 1) := hp
  unfold q_X0_multipleOf q_X0_keyOf
  rw [hp', show (1 : Int32) = nI 1 from rfl, show (0 : Int32) = nI 0 from rfl, key_I]
  exact ⟨_, this⟩
/-- what holds on the way to the order -/
def oIn (o ord left r N : Nat) : Prop := ∃ k c, ord = o * k ∧ ord = left * c ∧ Nat.Coprime k c ∧ (∀ d, 2 ≤ d → d < r → ¬ d ∣ left) ∧ 1 ≤ left ∧ left ≤ N ∧ ord ≤ N ∧ 1 ≤ ord
theorem oIn_end {o ord left r N : Nat} (h : oIn o ord left r N) (hr : left < r) : ord = o := by
  obtain ⟨k, c, h1, h2, h3, h4, h5, -, -, h8⟩ := h
  have l1 : left = 1 := by
    rcases Nat.lt_or_ge left 2 with w | w
    · omega
    · exact absurd (Nat.dvd_refl left) (h4 left w hr)
  subst l1
  rw [Nat.one_mul] at h2
  have hk : k ∣ c := ⟨o, by rw [← h2, h1, Nat.mul_comm]⟩
  have := Nat.Coprime.eq_one_of_dvd h3 hk
  rw [h1, this, Nat.mul_one]
theorem oIn_next {o ord left r N : Nat} (h : oIn o ord left r N) (hx : left ≤ 1 ∨ left % r ≠ 0) : oIn o ord left (r + 1) N := by
  obtain ⟨k, c, h1, h2, h3, h4, h5, h6, h7, h8⟩ := h
  refine ⟨k, c, h1, h2, h3, fun d d2 dr dd => ?_, h5, h6, h7, h8⟩
  by_cases e : d = r
  · subst e
    rcases hx with w | w
    · have := Nat.le_of_dvd (by omega) dd
      omega
    · exact w (Nat.mod_eq_zero_of_dvd dd)
  · exact h4 d d2 (by omega) dd
theorem oIn_yes {o ord left r N : Nat} (h : oIn o ord left r N) (hr : 2 ≤ r) (hl : 1 < left) (hm : left % r = 0) (ho : o ∣ ord / r) : oIn o (ord / r) (left / r) r N ∧ left / r < left := by
  obtain ⟨k, c, h1, h2, h3, h4, h5, h6, h7, h8⟩ := h
  obtain ⟨l, hl2⟩ := Nat.dvd_of_mod_eq_zero hm
  obtain ⟨k', hk'⟩ := ho
  have e1 : left / r = l := by rw [hl2, Nat.mul_div_cancel_left _ (by omega)]
  have e2 : ord / r = l * c := by rw [h2, hl2, Nat.mul_assoc, Nat.mul_div_cancel_left _ (by omega)]
  have e3 : ord = r * (ord / r) := by rw [e2, h2, hl2, Nat.mul_assoc]
  have l1 : 1 ≤ l := by
    rcases Nat.eq_zero_or_pos l with w | w
    · rw [w, Nat.mul_zero] at hl2; omega
    · exact w
  have hlt : l < left := by
    have : 2 * l ≤ r * l := Nat.mul_le_mul_right _ hr
    omega
  have o0 : 0 < o := by
    rcases Nat.eq_zero_or_pos o with w | w
    · rw [w, Nat.zero_mul] at h1; omega
    · exact w
  have ek : k = r * k' := by
    have : o * k = o * (r * k') := by
      rw [← h1, e3, hk', ← Nat.mul_assoc, ← Nat.mul_assoc, Nat.mul_comm r o]
    exact Nat.eq_of_mul_eq_mul_left o0 this
  have hq : ord / r ≤ ord := Nat.div_le_self _ _
  have hq1 : 1 ≤ ord / r := by
    rcases Nat.eq_zero_or_pos (ord / r) with w | w
    · rw [w, Nat.mul_zero] at e3; omega
    · exact w
  refine ⟨⟨k', c, hk', by rw [e1]; exact e2, Nat.Coprime.coprime_dvd_left ⟨r, by rw [ek, Nat.mul_comm]⟩ h3, fun d d2 dr dd => h4 d d2 dr ?_, by omega, by omega, by omega, hq1⟩, by omega⟩
  rw [e1] at dd
  rw [hl2]
  exact Nat.dvd_trans dd (Nat.dvd_mul_left _ _)
theorem oIn_no {o ord left r N : Nat} (h : oIn o ord left r N) (hr : 2 ≤ r) (hl : 1 < left) (hm : left % r = 0) (ho : ¬ o ∣ ord / r) : oIn o ord (left / r) r N ∧ left / r < left := by
  obtain ⟨k, c, h1, h2, h3, h4, h5, h6, h7, h8⟩ := h
  obtain ⟨l, hl2⟩ := Nat.dvd_of_mod_eq_zero hm
  have e1 : left / r = l := by rw [hl2, Nat.mul_div_cancel_left _ (by omega)]
  have l1 : 1 ≤ l := by
    rcases Nat.eq_zero_or_pos l with w | w
    · rw [w, Nat.mul_zero] at hl2; omega
    · exact w
  have hlt : l < left := by
    have : 2 * l ≤ r * l := Nat.mul_le_mul_right _ hr
    omega
  have hcr : Nat.Coprime k r := by
    show Nat.gcd k r = 1
    have g1 : Nat.gcd k r ∣ r := Nat.gcd_dvd_right k r
    have g0 : 0 < Nat.gcd k r := Nat.gcd_pos_of_pos_right k (by omega)
    have gle := Nat.le_of_dvd (by omega) g1
    rcases Nat.lt_or_ge (Nat.gcd k r) 2 with w | w
    · omega
    · rcases Nat.lt_or_ge (Nat.gcd k r) r with y | y
      · exact absurd (Nat.dvd_trans g1 ⟨l, hl2⟩) (h4 _ w y)
      · have eg : Nat.gcd k r = r := by omega
        have : r ∣ k := eg ▸ Nat.gcd_dvd_left k r
        obtain ⟨k2, hk2⟩ := this
        exfalso
        apply ho
        refine ⟨k2, ?_⟩
        rw [h1, hk2, ← Nat.mul_assoc, Nat.mul_comm o r, Nat.mul_assoc, Nat.mul_div_cancel_left _ (by omega)]
  refine ⟨⟨k, r * c, h1, ?_, Nat.Coprime.mul_right hcr h3, fun d d2 dr dd => h4 d d2 dr ?_, by omega, by omega, h7, h8⟩, by omega⟩
  · rw [e1, h2, hl2, Nat.mul_comm r l, Nat.mul_assoc]
  · rw [e1] at dd
    rw [hl2]
    exact Nat.dvd_trans dd (Nat.dvd_mul_left _ _)
theorem s_orderOf {q C c a b o : Nat} {cv : Nat → Nat × Nat × Nat} {K : Int32} {T : Int64} {t : fcS} (hS : ST q C cv K T t) (hc : c < C) (ho : cvd q (cv c) % 2 = 1) (hO : cvO (cvP q (cv c)) (cvd q (cv c)) (cvg q (cv c))) {x : GC (cvP q (cv c)) (cvg q (cv c))} (hx : isK hO x a b) (hod : ∀ n, gm (gop hO) (gen hO) x n = gen hO ↔ o ∣ n) {post : Int32 → fcS → Prop} (hh : ∀ t2, ST q C cv K T t2 → post (nI o) t2) : q_X0_orderOf t (21 + 4 * c + 2) (nI (a * (q + 1) ^ 2 + b)) post := by
  have hq := hS.1.1
  have hV := hS.1.2.2 c hc
  have hlen := cls_450 hq hV ho
  obtain ⟨-, -, -, -, hP, hP7, hP0, -, -, g1', g2'⟩ := cv_is hq hV
  refine s_many hS hc ho (fun t2 hS2 hL => ?_)
  obtain ⟨⟨-, -, -, -, -, -, d7, d8⟩, -, -⟩ := hS2.2.1.2.2 c hc
  have hp2 := hS2.2.1.1.1
  have hp' : fgi t2 1 0 = nI (q + 1) := hp2
  have hN1 : 1 ≤ (cls q (cvP q (cv c)) (cvg q (cv c))).length := by
    obtain ⟨i, hi, -⟩ := pr_ex (cls_pos (g := cvg q (cv c)) hq ⟨7, hP7⟩)
    omega
  have hlag := (hod _).mp (cls_lagr hO x)
  generalize (cls q (cvP q (cv c)) (cvg q (cv c))).length = N at *
  have inner : ∀ (k10 : Int32 → Int32 → Int32 → Int32 → fcS → Prop) (r : Nat), 2 ≤ r → r ≤ N + 1 → (∀ ord' left', oIn o ord' left' r N → (left' ≤ 1 ∨ left' % r ≠ 0) → k10 (nI (a * (q + 1) ^ 2 + b)) (nI ord') (nI left') (nI (r + 1)) t2) → ∀ F ord left, left < F → oIn o ord left r N → q_X0_orderOf_16 (21 + 4 * c + 2) post k10 F (nI (a * (q + 1) ^ 2 + b)) (nI ord) (nI left) (nI r) t2 := by
    intro k10 r hr hrN hk F
    induction F with
    | zero => intro ord left h; omega
    | succ F ih =>
      intro ord left hF hI
      have hI' := hI
      obtain ⟨-, -, -, -, -, -, h5, h6, h7, h8⟩ := hI'
      unfold q_X0_orderOf_16
      refine ⟨fun z x3 ex => ?_, fun z => ⟨nI_ne0 (by omega) (by omega), ?_⟩⟩
      · rw [ex, nI_1]
        exact hk ord left hI (Or.inl ((nI_leI (b := 1) (by omega) (by omega)).mp z))
      · have hl1 : 1 < left := by
          rcases Nat.lt_or_ge 1 left with w | w
          · exact w
          · exact absurd (show nI left ≤ nI 1 from nI_le w (by omega)) z
        rw [rem_nI (by omega) (by omega) (by omega), pk_div (by omega) (by omega) (by omega), pk_div (by omega) (by omega) (by omega)]
        refine ⟨fun w x4 ex => ?_, fun w => ⟨nI_ne0 (by omega) (by omega), fun x5 ex5 => ⟨nI_ne0 (by omega) (by omega), ?_⟩⟩⟩
        · rw [ex, nI_1]
          exact hk ord left hI (Or.inr (fun y => w (by rw [y]; rfl)))
        · have hm : left % r = 0 := (nI_eq (b := 0) (Nat.lt_of_le_of_lt (Nat.mod_le _ _) (by omega)) (by omega)).mp w
          subst ex5
          refine s_mulOf hO hp2 d7 d8 (Nat.lt_of_le_of_lt (Nat.div_le_self _ _) (by omega)) hx (fun a1 b1 h1 => ?_)
          show (¬ nI (a1 * (q + 1) ^ 2 + b1) = 1 * fgi t2 1 0 * fgi t2 1 0 + 0 → _) ∧ (nI (a1 * (q + 1) ^ 2 + b1) = 1 * fgi t2 1 0 * fgi t2 1 0 + 0 → _)
          rw [hp', show (1 : Int32) = nI 1 from rfl, show (0 : Int32) = nI 0 from rfl, key_I]
          have bd := cls_bd hq g2' h1.1
          have k1 := key_lt hq bd.1 bd.2
          have k2 : 1 * (q + 1) ^ 2 + 0 < 60000 := key_lt (a := 1) (b := 0) hq (by have := (pow2_le (d := 2) hq (by omega)).2.1; omega) (by have := (pow2_le (d := 2) hq (by omega)).2.1; omega)
          have hiff := isK_iff hO h1
          rw [hod] at hiff
          refine ⟨fun y => ?_, fun y => ⟨nI_ne0 (by omega) (by omega), fun x10 ex10 => ?_⟩⟩
          · have hno : ¬ o ∣ ord / r := fun z => y (by rw [hiff.mp z])
            obtain ⟨n1, n2⟩ := oIn_no hI hr hl1 hm hno
            exact ih ord (left / r) (by omega) n1
          · have hyes : o ∣ ord / r := hiff.mpr ((nI_eq (by omega) (by omega)).mp y)
            obtain ⟨n1, n2⟩ := oIn_yes hI hr hl1 hm hyes
            subst ex10
            exact ih (ord / r) (left / r) (by omega) n1
  have outer : ∀ F r ord left, N + 2 ≤ r + F → 2 ≤ r → (r ≤ N + 1 ∨ r = 2) → oIn o ord left r N → q_X0_orderOf_10 (21 + 4 * c + 2) post F (nI (a * (q + 1) ^ 2 + b)) (nI ord) (nI left) (nI r) t2 := by
    intro F
    induction F with
    | zero =>
      intro r ord left hF hr hrN hI
      omega
    | succ F ih =>
      intro r ord left hF hr hrN hI
      have hI' := hI
      obtain ⟨-, -, -, -, -, -, h5, h6, h7, h8⟩ := hI'
      unfold q_X0_orderOf_10
      refine ⟨fun z => ?_, fun z => ⟨left + 1, ?_⟩⟩
      · have := oIn_end hI ((nI_ltI (by omega) (by omega)).mp z)
        rw [this]; exact hh t2 hS2
      · have hrl : r ≤ left := by
          rcases Nat.lt_or_ge left r with w | w
          · exact absurd (nI_lt w (by omega)) z
          · exact w
        refine inner _ r hr (by omega) (fun ord' left' hI2 hx2 => ?_) (left + 1) ord left (by omega) hI
        exact ih (r + 1) ord' left' (by omega) (by omega) (by omega) (oIn_next hI2 hx2)
  obtain ⟨k, hk⟩ := hlag
  refine ⟨N + 1, outer (N + 1) 2 N N (by omega) (by omega) (Or.inr rfl) ⟨k, 1, hk, (Nat.mul_one _).symm, Nat.coprime_one_right k, fun d a b => by omega, hN1, Nat.le_refl _, Nat.le_refl _, hN1⟩⟩
theorem cls_first {q g : Nat} (hq : isP q) {P : PS q} (hP : isPol P) : pr (cls q P g) 0 = (1, 0) := by
  have key : ∀ k, ∃ r, cgp q P (1 + k) = cgp q P 1 ++ r := by
    intro k
    induction k with
    | zero => exact ⟨[], (List.append_nil _).symm⟩
    | succ k ih =>
      obtain ⟨r, h⟩ := ih
      exact ⟨r ++ cld q P (1 + k), by rw [← Nat.add_assoc, cgp_s, h, List.append_assoc]⟩
  have hg : gdb q P 1 0 = true := gdb_iff.mpr (((cls_rng (d := 0) hq (by rw [Nat.pow_zero]; exact Nat.le_refl _) (by rw [Nat.pow_zero]; omega) (by omega : 0 ≤ g)).mp (cls_pos hq hP)).2)
  have e1 : cgp q P 1 = [(1, 0)] := by
    rw [cgp_s, cld_p, Nat.pow_zero, cdp_s, clu_p, Nat.pow_zero, clp_s, Nat.add_zero, if_pos hg]
    rfl
  obtain ⟨r, h⟩ := key g
  rw [cls_p, Nat.add_comm g 1, h, e1]
  rfl
theorem m_order {q C c i a b o : Nat} {cv : Nat → Nat × Nat × Nat} {K : Int32} {T : Int64} {t : fcS} (hS : ST q C cv K T t) (hc : c < C) (ho : cvd q (cv c) % 2 = 1) (hO : cvO (cvP q (cv c)) (cvd q (cv c)) (cvg q (cv c))) (hL : LR t (cls q (cvP q (cv c)) (cvg q (cv c)))) (hi : i < (cls q (cvP q (cv c)) (cvg q (cv c))).length) (ei : pr (cls q (cvP q (cv c)) (cvg q (cv c))) i = (a, b)) {x : GC (cvP q (cv c)) (cvg q (cv c))} (hx : isK hO x a b) (o1 : gm (gop hO) (gen hO) x o = gen hO) (omin : ∀ j, 1 ≤ j → j < o → gm (gop hO) (gen hO) x j ≠ gen hO) {post : Int32 → fcS → Prop} (hh : ∀ t2, eqW t t2 → post (nI o) t2) : ∀ F n at' an bn (t1 : fcS), n + F = o → 1 ≤ n → at' < (cls q (cvP q (cv c)) (cvg q (cv c))).length → pr (cls q (cvP q (cv c)) (cvg q (cv c))) at' = (an, bn) → isK hO (gm (gop hO) (gen hO) x n) an bn → eqW t t1 → q_X5_order_21 post (F + 1) (nI c) (nI i) (nI n) (nI at') t1 := by
  have hq := hS.1.1
  have hV := hS.1.2.2 c hc
  have hlen := cls_450 hq hV ho
  have hip : isPol (cvP q (cv c)) := ⟨_, hO.2.1⟩
  have hfirst := cls_first (g := cvg q (cv c)) hq hip
  have zero : ∀ n at' an bn, at' < (cls q (cvP q (cv c)) (cvg q (cv c))).length → pr (cls q (cvP q (cv c)) (cvg q (cv c))) at' = (an, bn) → isK hO (gm (gop hO) (gen hO) x n) an bn → (gm (gop hO) (gen hO) x n = gen hO ↔ at' = 0) := fun n at' an bn h1 h2 h3 => by
    constructor
    · intro e
      rw [e] at h3
      obtain ⟨x1, x2⟩ := isK_uq hO h3 (isK_e hO)
      subst x1 x2
      exact pr_inj (cls_nodup hq _) h1 (by omega) (h2.trans hfirst.symm)
    · intro e
      subst e
      rw [hfirst] at h2
      obtain ⟨x1, x2⟩ := Prod.mk.injEq _ _ _ _ ▸ h2
      subst x1 x2
      exact Subtype.ext (h3.2.trans (isK_e hO).2.symm)
  intro F
  induction F with
  | zero =>
    intro n at' an bn t1 e hn h1 h2 h3 w1
    have en : n = o := by omega
    subst en
    have := (zero n at' an bn h1 h2 h3).mp o1
    subst this
    unfold q_X5_order_21
    exact ⟨fun _ => hh t1 w1, fun z => absurd rfl z⟩
  | succ F ih =>
    intro n at' an bn t1 e hn h1 h2 h3 w1
    have hne : at' ≠ 0 := fun z => omin n hn (by omega) ((zero n at' an bn h1 h2 h3).mpr z)
    unfold q_X5_order_21
    refine ⟨fun z => absurd ((nI_eq (b := 0) (by omega) (by omega)).mp z) hne, fun _ => ?_⟩
    obtain ⟨a2, b2, h4⟩ := isK_ex hO (gop hO (gm (gop hO) (gen hO) x n) x)
    obtain ⟨i2, hi2, e2⟩ := pr_ex h4.1
    refine m_addOf (ST_W hS w1) hc ho (LR_W hL w1) h1 h2 hi ei hi2 e2 ?_ (fun t2 w2 x6 e6 => ?_)
    · rw [← h3.2, ← hx.2, ← h4.2]
      rfl
    · rw [e6, nI_1]
      exact ih (n + 1) i2 a2 b2 t2 (by omega) (by omega) hi2 e2 h4 (eqW_tr w1 w2)
theorem ok_29 : fOK_29 Inv := by
  intro t x y ⟨q, C, cv, K, T, hS⟩
  have hq := hS.1.1
  have hl := isP_lo hq
  have hC := hS.1.2.1
  refine c_list hS (fun hno => ⟨fun _ t1 e1 => ?_, fun i e => (nomatch e)⟩) (fun c hc ex ho hk => ⟨fun e => (nomatch e), fun i2 e2 => ⟨?_, ?_⟩⟩)
  · subst e1
    have h0 := ST_0 hS
    exact m_isTh0 h0 hno ⟨fun z => absurd rfl z, fun _ => ⟨rfl, ST_Inv h0⟩⟩
  · obtain rfl := Option.some.inj e2
    exact hk
  · obtain rfl := Option.some.inj e2
    subst ex
    have hV := hS.1.2.2 c hc
    have hO := cv_O hq hV ho
    have hlen := cls_450 hq hV ho
    refine s_reach hS hc ho (fun hno t2 hS2 => ⟨fun z => absurd rfl z, fun _ t1 e1 => ?_⟩) (fun i hi ey t2 hS2 hL => ⟨fun _ => ?_, fun z => absurd z i0⟩)
    · subst e1
      exact m_isTh (ST_0 hS2) hc ho (fun _ t3 hS3 => ⟨fun z => absurd rfl z, fun _ => ⟨rfl, ST_Inv hS3⟩⟩) (fun i hi e => absurd e (hno i hi))
    · subst ey
      obtain ⟨⟨a, b⟩, ei⟩ : ∃ x, pr (cls q (cvP q (cv c)) (cvg q (cv c))) i = x := ⟨_, rfl⟩
      have hm : (a, b) ∈ cls q (cvP q (cv c)) (cvg q (cv c)) := ei ▸ pr_mem hi
      have hip : isPol (cvP q (cv c)) := ⟨_, hO.2.1⟩
      obtain ⟨g, hg⟩ : ∃ g : GC (cvP q (cv c)) (cvg q (cv c)), isK hO g a b := ⟨⟨(pn q a, pn q b), cls_C hq hip hm⟩, hm, rfl⟩
      obtain ⟨o, o1, o2, o3, o4⟩ := ord_ex (g_gr hO) (show 1 ≤ (cls q (cvP q (cv c)) (cvg q (cv c))).length by omega) (cls_lagr hO g)
      refine s_at (by omega) (by omega) ?_
      rw [hL.2 i hi, ei]
      refine s_orderOf hS2 hc ho hO hg o4 (fun t3 hS3 t4 e4 => ?_)
      subst e4
      refine m_isTh (ST_0 hS3) hc ho (fun hno => absurd rfl (hno i hi)) (fun _ _ _ t5 hS5 hL5 => ⟨fun _ => ⟨o - 1 + 1, ?_⟩, fun z => absurd z i0⟩)
      exact m_order hS5 hc ho hO hL5 hi ei hg o2 o3 (fun t6 w6 => ⟨rfl, ST_Inv (ST_W hS5 w6)⟩) (o - 1) 1 i a b t5 (by omega) (Nat.le_refl _) hi ei (by rw [gm_1 (g_gr hO)]; exact hg) (eqW_rf t5)
