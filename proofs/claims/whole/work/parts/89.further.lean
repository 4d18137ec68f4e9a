/-! FURTHER -/
theorem gl_fsl (t : fcS) (r i : Nat) (v : Int64) (j : Nat) : fgl (fsl t r i v) r j = if j = i then v else fgl t r j := by
  unfold fgl fsl
  show (if r = r then vp_updL (t.2.2.2 r) i v else t.2.2.2 r) j = _
  rw [if_pos rfl]; rfl
/-- the sum for r(m), j of its products taken -/
def fac (s P : Nat → Int64) (m : Nat) : Nat → Int64
  | 0 => Int32.toInt64 (nI m) * s m
  | j + 1 => fac s P m j + s (j + 1) * P (m - (j + 1))
def ftb (s : Nat → Int64) : Nat → Nat → Int64
  | 0 => fun _ => 0
  | m + 1 => fun k => if k = m + 1 then -(fac s (ftb s m) (m + 1) m) else ftb s m k
def szl (q : Nat) : Nat → Int64
  | 0 => 1
  | m + 1 => szl q m * Int32.toInt64 (nI (q + 1))
def sl (S : Nat → Int32) : Nat → Int64 := fun i => Int32.toInt64 (if i < 5 then S i else 0)
theorem sl_big {S : Nat → Int32} {i : Nat} (h : 5 ≤ i) : sl S i = 0 := by
  unfold sl; rw [if_neg (by omega)]; rfl
theorem fac_stop (S : Nat → Int32) (P : Nat → Int64) (m : Nat) : ∀ k, fac (sl S) P m (4 + k) = fac (sl S) P m 4
  | 0 => rfl
  | k + 1 => by
    show fac (sl S) P m (4 + k) + sl S (4 + k + 1) * P (m - (4 + k + 1)) = _
    rw [sl_big (by omega), Int64.zero_mul, Int64.add_zero, fac_stop S P m k]
theorem s_at5 {t : fcS} {r i : Nat} {S : Nat → Int32} (hr : ∀ i, i < 5 → fga t r i = S i) (hi : i < 2 ^ 30) {post : Int32 → fcS → Prop} (h : post (if i < 5 then S i else 0) t) : q_X4_at t r 5 (nI i) post := by
  by_cases c : i < 5
  · refine s_at c (by omega) ?_
    rw [if_pos c] at h
    rw [hr i c]; exact h
  · rw [if_neg c] at h
    exact ⟨fun _ => h, fun _ => ⟨fun _ => h, fun z => absurd (show nI 5 ≤ nI i from nI_le (by omega) (by omega)) z⟩⟩
theorem c_fur {t : fcS} {q k n : Nat} {S : Nat → Int32} (hp : rp t q) (hk : k + 1 ≠ 4) (hr : ∀ i, i < 5 → fga t (k + 1) i = S i) (hn : n ≤ 12) {post : Int64 → fcS → Prop} (hn1 : 1 ≤ n) (hh : ∀ t2, sameK t t2 → post (szl q n + 1 - ftb (sl S) n n) t2) : ∀ d m (t1 : fcS), m + d = n → sameK t t1 → (∀ j, 1 ≤ j → j ≤ m → fgl t1 5 j = ftb (sl S) m j) → q_X4_further_38 k post (d + 1) (nI n) (szl q m) (nI (m + 1)) t1 := by
  intro d
  induction d with
  | zero =>
    intro m t1 e e1 hx
    have em : m = n := by omega
    subst em
    unfold q_X4_further_38
    refine ⟨fun _ => ⟨vp_in_nI (by omega) (by omega), ?_⟩, fun z => absurd (nI_lt (by omega) (by omega)) z⟩
    rw [nI_clamp (by omega), hx m hn1 (Nat.le_refl _)]
    exact hh t1 e1
  | succ d ih =>
    intro m t1 e e1 hx
    have r1 : ∀ i, i < 5 → fga t1 (k + 1) i = S i := fun i hi => by rw [e1.2.1 _ hk]; exact hr i hi
    unfold q_X4_further_38
    refine ⟨fun z => absurd z (nI_nlt (by omega) (by omega)), fun _ x5 e5 => s_at5 r1 (by omega) (fun x8 e8 => ⟨m + 1, ?_⟩)⟩
    have p1 : fgi t1 1 0 = nI (q + 1) := (sameK_gi e1 1 0).trans hp
    rw [p1] at e5
    have inner : ∀ d' j, j + d' = m → q_X4_further_74 k post (fun v2_ v5_ v7_ t_ => q_X4_further_38 k post (d + 1) v2_ v5_ v7_ t_) (d' + 1) (nI n) x5 (nI (m + 1)) (fac (sl S) (ftb (sl S) m) (m + 1) j) (nI (j + 1)) t1 := by
      intro d'
      induction d' with
      | zero =>
        intro j ej
        have ejm : j = m := by omega
        subst ejm
        unfold q_X4_further_74
        refine ⟨fun _ => ⟨vp_in_nI (by omega) (by omega), fun t9 e9 x10 e10 => ?_⟩, fun z => absurd (nI_le (by omega) (by omega)) z⟩
        rw [nI_clamp (by omega)] at e9
        subst e9
        rw [e10, nI_1, show x5 = szl q (j + 1) from e5]
        refine ih (j + 1) _ (by omega) (sameK_tr e1 (sameK_fsl t1 _ _)) (fun i h1 h2 => ?_)
        rw [gl_fsl]
        show _ = if i = j + 1 then _ else ftb (sl S) j i
        by_cases c : i = j + 1
        · rw [if_pos c, if_pos c]
        · rw [if_neg c, if_neg c]; exact hx i h1 (by omega)
      | succ d' ih2 =>
        intro j ej
        unfold q_X4_further_74
        refine ⟨fun z => absurd z (nI_ge (by omega) (by omega)), fun _ => s_at5 r1 (by omega) ?_⟩
        rw [pk_sub (by omega), nI_clamp (by omega)]
        refine ⟨vp_in_nI (by omega) (by omega), fun x13 e13 x14 e14 => ?_⟩
        rw [hx _ (by omega) (by omega)] at e13
        rw [e14, nI_1, show x13 = fac (sl S) (ftb (sl S) m) (m + 1) (j + 1) from e13]
        exact ih2 (j + 1) (by omega)
    have := inner m 0 (by omega)
    rw [show fac (sl S) (ftb (sl S) m) (m + 1) 0 = x8 from e8.symm] at this
    exact this
theorem i64_a (a b c : Int64) : -a - b * c = -(a + b * c) := by
  rw [Int64.neg_add, Int64.sub_eq_add_neg]
theorem m_fur {t : fcS} {q n : Nat} {S : Nat → Int32} (hp : mp t q) (hr : ∀ i, i < 5 → fga t 65 i = S i) (hn : n ≤ 12) {post : Int64 → fcS → Prop} (hn1 : 1 ≤ n) (hh : ∀ t2, eqV t t2 → post (szl q n + 1 - ftb (sl S) n n) t2) : ∀ d m (t1 : fcS), m + d = n → eqV t t1 → fga t1 65 = fga t 65 → (∀ j, 1 ≤ j → j ≤ m → fgl t1 66 j = ftb (sl S) m j) → q_X5_further_39 post (d + 1) (nI n) (szl q m) (nI (m + 1)) t1 := by
  intro d
  induction d with
  | zero =>
    intro m t1 e e1 e65 hx
    have em : m = n := by omega
    subst em
    unfold q_X5_further_39
    refine ⟨fun _ => ⟨vp_in_nI (by omega) (by omega), ?_⟩, fun z => absurd (nI_lt (by omega) (by omega)) z⟩
    rw [nI_clamp (by omega), hx m hn1 (Nat.le_refl _)]
    exact hh t1 e1
  | succ d ih =>
    intro m t1 e e1 e65 hx
    have r1 : ∀ i, i < 5 → fga t1 65 i = S i := fun i hi => by rw [e65]; exact hr i hi
    have p1 : fgi t1 53 1 = nI (q + 1) := (e1.1.1 53 1 (by omega)).trans hp
    unfold q_X5_further_39
    refine ⟨fun z => absurd z (nI_nlt (by omega) (by omega)), fun _ x5 e5 => ?_⟩
    rw [p1] at e5
    have fin : ∀ x : Int64, x = -(fac (sl S) (ftb (sl S) m) (m + 1) m) → q_X5_further_39 post (d + 1) (nI n) x5 (nI (m + 1) + 1) (fsl t1 66 (m + 1) x) := fun x ex => by
      rw [nI_1, show x5 = szl q (m + 1) from e5]
      refine ih (m + 1) _ (by omega) (eqV_tr e1 ⟨⟨fun _ _ _ => rfl, fun _ _ _ _ _ => rfl, rfl, fun k hk => ?_⟩, rfl, rfl⟩) e65 (fun i h1 h2 => ?_)
      · unfold fgl fsl
        show (if k = 66 then _ else _) = _
        rw [if_neg hk]
      · rw [gl_fsl]
        show _ = if i = m + 1 then _ else ftb (sl S) m i
        by_cases c : i = m + 1
        · rw [if_pos c, if_pos c, ex]
        · rw [if_neg c, if_neg c]; exact hx i h1 (by omega)
    have inner : ∀ d' j (v6 : Int64), j + d' = m → j ≤ 4 → v6 = -(fac (sl S) (ftb (sl S) m) (m + 1) j) → q_X5_further_81 post (fun v2_ v3_ v5_ t_ => q_X5_further_39 post (d + 1) v2_ v3_ v5_ t_) (d' + 1) (nI n) x5 (nI (m + 1)) v6 (nI (j + 1)) t1 := by
      intro d'
      induction d' with
      | zero =>
        intro j v6 ej j4 ev
        have ejm : j = m := by omega
        subst ejm
        unfold q_X5_further_81
        refine ⟨fun _ => ⟨vp_in_nI (by omega) (by omega), fun t9 e9 x10 e10 => ?_⟩, fun z => absurd (nI_le (by omega) (by omega)) z⟩
        rw [nI_clamp (by omega)] at e9
        subst e9
        rw [e10]
        exact fin v6 ev
      | succ d' ih2 =>
        intro j v6 ej j4 ev
        unfold q_X5_further_81
        refine ⟨fun z => absurd z (nI_ge (by omega) (by omega)), fun _ => ⟨fun z => ?_, fun z => ?_⟩⟩
        · have j5 : 5 ≤ j + 1 := (nI_leI (a := 5) (by omega) (by omega)).mp z
          refine ⟨vp_in_nI (by omega) (by omega), fun t9 e9 x10 e10 => ?_⟩
          rw [nI_clamp (by omega)] at e9
          subst e9
          rw [e10]
          refine fin v6 ?_
          rw [ev, show m = 4 + (m - 4) by omega]
          have e4 : j = 4 := by omega
          rw [e4, fac_stop]
        · have j5 : j + 1 < 5 := by
            rcases Nat.lt_or_ge (j + 1) 5 with w | w
            · exact w
            · exact absurd (show nI 5 ≤ _ from nI_le w (by omega)) z
          rw [pk_sub (by omega), nI_clamp (by omega), nI_clamp (by omega), r1 _ j5, hx _ (by omega) (by omega)]
          refine ⟨vp_in_nI (by omega) (by omega), vp_in_nI (by omega) (by omega), fun x12 e12 x13 e13 => ?_⟩
          rw [e13, nI_1]
          refine ih2 (j + 1) _ (by omega) (by omega) ?_
          rw [e12, ev]
          show _ = -(fac (sl S) (ftb (sl S) m) (m + 1) j + sl S (j + 1) * _)
          rw [show sl S (j + 1) = Int32.toInt64 (S (j + 1)) by unfold sl; rw [if_pos j5], i64_a]
    refine ⟨fun z => ⟨m + 1, ?_⟩, fun z => ?_⟩
    · have m5 : 5 ≤ m + 1 := (nI_leI (a := 5) (by omega) (by omega)).mp z
      refine inner m 0 0 (by omega) (by omega) ?_
      show _ = -(Int32.toInt64 (nI (m + 1)) * sl S (m + 1))
      rw [sl_big m5, Int64.mul_zero]; rfl
    · have m5 : m + 1 < 5 := by
        rcases Nat.lt_or_ge (m + 1) 5 with w | w
        · exact w
        · exact absurd (show nI 5 ≤ _ from nI_le w (by omega)) z
      rw [nI_clamp (by omega), r1 _ m5]
      refine ⟨vp_in_nI (by omega) (by omega), fun x14 e14 => ⟨m + 1, ?_⟩⟩
      refine inner m 0 x14 (by omega) (by omega) ?_
      rw [e14]
      show _ = -(Int32.toInt64 (nI (m + 1)) * sl S (m + 1))
      rw [show sl S (m + 1) = Int32.toInt64 (S (m + 1)) by unfold sl; rw [if_pos m5], Int64.neg_mul]
theorem ok_19 : fOK_19 Inv := by
  intro t x y ⟨q, C, cv, K, T, hS⟩
  have hq := hS.1.1
  have hC := hS.1.2.1
  have o12 : (12 : Int64).toInt = 12 := by decide
  refine c_curve hS (fun hno => ⟨fun _ t1 e1 => ?_, fun i e => (nomatch e)⟩) (fun c hc ex hkc => ⟨fun e => (nomatch e), fun i2 e2 => ?_⟩)
  · subst e1
    have h0 := ST_0 hS
    exact m_isCurve (ST_6 h0) hC (fun _ => ⟨fun _ => ⟨rfl, ST_Inv h0⟩, fun z => absurd rfl z⟩) (fun c hc e => absurd e (hno c hc))
  obtain rfl := Option.some.inj e2
  subst ex
  refine ⟨hkc, ?_⟩
  have rc : ∀ t2, ST q C cv K T t2 → ∀ post : Int64 → fcS → Prop, q_X5_in (fsi t2 53 0 0) (Int32.toInt64 y) 1 12 (fun (r5 : Int32) (t4 : fcS) => (¬ r5 = 0 → (q_X5_needShares t4 (nI c) (fun (t6 : fcS) => ∃ n0, q_X5_further_39 post n0 y 1 1 t6))) ∧ (r5 = 0 → (post ((-1)) t4))) → q_X5_further t2 (nI c) y post := fun t2 h2 post h t1 e1 => by
    subst e1
    exact m_isCurve (ST_6 (ST_0 h2)) hC (fun hno => absurd rfl (hno c hc)) (fun _ _ _ => ⟨fun z => absurd z i0, fun _ => h⟩)
  by_cases w : 1 ≤ y.toInt ∧ y.toInt ≤ 12
  · obtain ⟨n, rfl, hn1, hn⟩ : ∃ n, y = nI n ∧ 1 ≤ n ∧ n ≤ 12 := by
      rcases ix_cases y (m := 13) (by omega) with z | ⟨j, hj, rfl⟩
      · omega
      · rw [nI_toInt (by omega)] at w
        exact ⟨j, rfl, by omega, by omega⟩
    refine ⟨fun z => absurd z (nI_nlt (a := n) (b := 1) hn1 (by omega)), fun _ => ⟨fun _ => s_shareOf hS hc (fun t2 hS2 hr => ⟨rfl, n + 1, ?_⟩), fun z => absurd (show nI n ≤ nI 12 from nI_le hn (by omega)) z⟩⟩
    refine c_fur (m := 0) (n := n) hS2.2.1.1.1 (by omega) hr hn hn1 (fun t3 e3 => ?_) n t2 (by omega) (sameK_rf t2) (fun j h1 h2 => by omega)
    have hS3 := ST_K hS2 e3
    have h0 := ST_0 hS3
    refine rc t3 hS3 _ (m_in (fun c1 => ?_) (fun _ _ => ⟨fun _ => ?_, fun z => absurd z i0⟩))
    · rw [ti_i, nI_toInt (by omega), ti_1, o12] at c1
      omega
    · refine m_needSh h0 hc (fun t4 e4 s4 r4 => ⟨n + 1, ?_⟩)
      have hS4 := ST_U h0 e4 s4
      exact m_fur (m := 0) hS4.2.2.1.1 r4 hn hn1 (fun t5 e5 => ⟨rfl, ST_Inv (ST_V hS4 e5)⟩) n t4 (by omega) (eqV_rf t4) rfl (fun j h1 h2 => by omega)
  · have rb : q_X5_further t (nI c) y (fun r2 t2 => (-1 : Int64) = r2 ∧ Inv t2) := by
      have h0 := ST_0 hS
      refine rc t hS _ (m_in (fun _ => ⟨fun z => absurd rfl z, fun _ => ⟨rfl, ST_Inv h0⟩⟩) (fun c1 c2 => ?_))
      rw [ti_i, ti_1] at c1
      rw [ti_i, o12] at c2
      omega
    refine ⟨fun _ => rb, fun c1 => ⟨fun c3 => ?_, fun _ => rb⟩⟩
    exfalso
    rw [Int32.lt_iff_toInt_lt, o32_1] at c1
    rw [Int32.le_iff_toInt_le, show (12 : Int32).toInt = 12 by decide] at c3
    omega
