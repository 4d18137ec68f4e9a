/-! the reference's start -/
def eqB (t t2 : fcS) : Prop := sameC t t2 ∧ fgi t2 53 11 = fgi t 53 11 ∧ fgj t2 53 12 = fgj t 53 12
theorem eqB_tr {t t2 t3 : fcS} (h : eqB t t2) (h2 : eqB t2 t3) : eqB t t3 := ⟨sameC_tr h.1 h2.1, h2.2.1.trans h.2.1, h2.2.2.trans h.2.2⟩
theorem eqB_fsi (t : fcS) {j : Nat} (hj : j ≠ 11) (v : Int32) : eqB t (fsi t 53 j v) := ⟨sameC_fsi t j v, by rw [gi_fsi, if_neg (by omega)], rfl⟩
theorem eqB_fsa (t : fcS) {r : Nat} (hr : 53 ≤ r) (i : Nat) (v : Int32) : eqB t (fsa t r i v) := ⟨sameC_fsa t hr i v, rfl, rfl⟩
theorem eqB_U {t t2 : fcS} (h : eqU t t2) : eqB t t2 := ⟨sameC_U h, h.1 53 11 (by omega), by unfold fgj; rw [h.2.2.1]⟩
theorem l_bd {t : fcS} {q : Nat} (hq : isP q) {post : fcS → Prop} (hh : ∀ t2, eqB t t2 → RB t2 q → RS t2 q → fgi t2 53 5 = nI (dns q) → fgi t2 53 6 = 0 → fgi t2 53 16 = -9 → post t2) : ∀ d a (t1 : fcS), a + d = dns q → eqB t t1 → RB t1 q → RS t1 q → (∀ x, x < (q + 1) ^ 1 → fga t1 61 x = sg q 1 x) → fgi t1 53 5 = nI a → fgi t1 53 6 = 0 → fgi t1 53 16 = -9 → q_X5_begins_96 post (d + 1) t1 := by
  have hl := isP_lo hq
  obtain ⟨d1, d2, d3, d4⟩ := dns_ok hq
  intro d
  induction d with
  | zero =>
    intro a t1 e e1 hB hS hx h5 h6 h16
    have e : a = dns q := by omega
    subst e
    unfold q_X5_begins_96
    rw [h5, nI_clamp (by omega), hx _ (by rw [Nat.pow_one]; exact d1), d3]
    exact ⟨vp_in_nI (by omega) (by omega), fun _ => hh t1 e1 hB hS h5 h6 h16, fun c => absurd (by decide) c⟩
  | succ d ih =>
    intro a t1 e e1 hB hS hx h5 h6 h16
    unfold q_X5_begins_96
    rw [h5, nI_clamp (by omega), hx _ (by rw [Nat.pow_one]; omega)]
    refine ⟨vp_in_nI (by omega) (by omega), fun c => ?_, fun _ t9 e9 => ?_⟩
    · exfalso
      rcases d4 a (by omega) with z | z <;> rw [z] at c <;> exact absurd c (by decide)
    · rw [nI_1] at e9
      subst e9
      refine ih (a + 1) _ (by omega) (eqB_tr e1 (eqB_fsi t1 (by omega) _)) ?_ ?_ hx (gi_same _ _ _ _) ?_ ?_
      · unfold RB mp at *
        rw [gi_fsi, if_neg (by omega), gi_fsi, if_neg (by omega)]; exact hB
      · unfold RS at *
        rw [gi_fsi, if_neg (by omega)]; exact hS
      · rw [gi_fsi, if_neg (by omega)]; exact h6
      · rw [gi_fsi, if_neg (by omega)]; exact h16
theorem l_bf {t : fcS} {q : Nat} (hq : isP q) {post : fcS → Prop} (hh : ∀ t2, eqB t t2 → RB t2 q → RS t2 q → fgi t2 53 5 = nI (dns q) → fgi t2 53 6 = 0 → fgi t2 53 16 = -9 → post t2) : ∀ d c (t1 : fcS), c + d = nfd q → eqB t t1 → mp t1 q → fgi t1 53 2 = nI c → (∀ n, 1 ≤ n → n ≤ c → fga t1 54 n = nI ((q + 1) ^ n) ∧ fga t1 55 n = nI (Mnu q n)) → q_X5_begins_15 post (d + 1) (nI ((q + 1) ^ (c + 1))) t1 := by
  have hl := isP_lo hq
  obtain ⟨n1, n2, n3⟩ := nfd_ok hq
  obtain ⟨d1, d2, d3, d4⟩ := dns_ok hq
  intro d
  induction d with
  | zero =>
    intro c t1 e e1 hp h2 hrow
    have e : c = nfd q := by omega
    subst e
    have hp8 : (q + 1) ^ (nfd q + 1) < 2 ^ 30 := pw7 hq (by omega)
    unfold q_X5_begins_15
    refine ⟨fun _ t4 e4 t5 e5 t6 e6 => ?_, fun z => absurd (nI_lt (a := 343) n1 (by omega)) z⟩
    subst e4 e5 e6
    have hB : RB (fsi (fsi (fsi t1 53 6 0) 53 16 (-9)) 53 15 0) q := by
      unfold RB mp
      rw [gi_fsi, if_neg (by omega), gi_fsi, if_neg (by omega), gi_fsi, if_neg (by omega), gi_fsi, if_neg (by omega), gi_fsi, if_neg (by omega), gi_fsi, if_neg (by omega)]
      exact ⟨hp, h2, hrow⟩
    have eB : eqB t (fsi (fsi (fsi t1 53 6 0) 53 16 (-9)) 53 15 0) := eqB_tr e1 (eqB_tr (eqB_fsi t1 (by omega) _) (eqB_tr (eqB_fsi _ (by omega) _) (eqB_fsi _ (by omega) _)))
    refine m_signs (n := 1) hB (Or.inl (gi_same _ _ _ _)) (fl_1 hq) (fun t7 e7 hS7 hx t8 e8 => ⟨dns q + 1, ?_⟩)
    subst e8
    refine l_bd hq hh (dns q) 0 _ (by omega) (eqB_tr eB (eqB_tr (eqB_U e7) (eqB_fsi t7 (by omega) _))) ?_ ?_ hx (gi_same _ _ _ _) ?_ ?_
    · have := RB_U hB e7
      unfold RB mp at *
      rw [gi_fsi, if_neg (by omega), gi_fsi, if_neg (by omega)]; exact this
    · unfold RS at *
      rw [gi_fsi, if_neg (by omega)]; exact hS7
    · rw [gi_fsi, if_neg (by omega), e7.1 53 6 (by omega), gi_fsi, if_neg (by omega), gi_fsi, if_neg (by omega), gi_same]
    · rw [gi_fsi, if_neg (by omega), e7.1 53 16 (by omega), gi_fsi, if_neg (by omega), gi_same]
  | succ d ih =>
    intro c t1 e e1 hp h2 hrow
    obtain ⟨m1, m2, m3, -, -⟩ := Mnu_ok hq (c + 1) (by omega) (by omega) (by omega)
    have hf : fl q (c + 1) := ⟨hq, by omega, by omega⟩
    unfold q_X5_begins_15
    refine ⟨fun z => absurd ((nI_ltI (a := 343) (by omega) (by omega)).mp z) (by omega), fun _ t10 e10 => ?_⟩
    rw [h2, nI_1] at e10
    subst e10
    rw [gi_same, nI_clamp (by omega)]
    refine ⟨vp_in_nI (by omega) (by omega), fun t11 e11 => ?_⟩
    have g2 : fgi t11 53 2 = nI (c + 1) := by
      subst e11
      exact gi_same t1 53 2 _
    have hp11 : mp t11 q := by
      subst e11
      unfold mp
      show fgi (fsi t1 53 2 (nI (c + 1))) 53 1 = _
      rw [gi_fsi, if_neg (by omega)]; exact hp
    rw [g2]
    refine m_least hf hp11 (fun t12 e12 => ?_)
    rw [nI_clamp (by omega)]
    refine ⟨vp_in_nI (by omega) (by omega), fun t14 e14 x15 e15 => ?_⟩
    have hp14 : mp t14 q := by
      subst e14
      show fgi t12 53 1 = _
      rw [eqW_gi e12]; exact hp11
    rw [show fgi t14 53 1 = nI (q + 1) from hp14, pk_mul, ← Nat.pow_succ] at e15
    rw [e15]
    refine ih (c + 1) t14 (by omega) ?_ hp14 ?_ ?_
    · subst e14 e11
      exact eqB_tr e1 (eqB_tr (eqB_fsi t1 (by omega) _) (eqB_tr (eqB_fsa _ (by omega) _ _) (eqB_tr (eqB_U (eqU_W e12)) (eqB_fsa _ (by omega) _ _))))
    · subst e14
      show fgi t12 53 2 = _
      rw [eqW_gi e12]; exact g2
    · intro n hn1 hn2
      subst e14
      rw [ga_fsaN t12 (show (54 : Nat) ≠ 55 by omega), ga_fsaG, e12.2.2 54 (by omega), e12.2.2 55 (by omega)]
      subst e11
      rw [ga_fsaG, ga_fsaN _ (show (55 : Nat) ≠ 54 by omega)]
      by_cases z : n = c + 1
      · rw [if_pos z, if_pos z, z]
        exact ⟨rfl, rfl⟩
      · rw [if_neg z, if_neg z]
        exact hrow n hn1 (by omega)
theorem m_begins {t : fcS} {q : Nat} (hq : isP q) {post : fcS → Prop} (hh : ∀ t2, eqB t t2 → RB t2 q → RS t2 q → fgi t2 53 5 = nI (dns q) → fgi t2 53 6 = 0 → fgi t2 53 16 = -9 → post t2) : q_X5_begins t (nI (q + 1)) post := by
  intro t1 e1 t2 e2 x3 e3
  subst e1 e2
  rw [gi_fsi, if_neg (by omega), gi_same] at e3
  subst e3
  have := l_bf hq hh (nfd q) 0 (fsi (fsi t 53 1 (nI (q + 1))) 53 2 0) (by omega) (eqB_tr (eqB_fsi t (by omega) _) (eqB_fsi _ (by omega) _)) (by
    unfold mp
    rw [gi_fsi, if_neg (by omega), gi_same]) (gi_same _ _ _ _) (fun n h1 h2 => by omega)
  rw [Nat.zero_add, Nat.pow_one] at this
  exact ⟨_, this⟩
/-- both began anew -/
theorem ST_new {t1 t2 : fcS} {q : Nat} {K : Int32} {T : Int64} (hq : isP q) (hp : rp t1 q) (h5 : fgi t1 0 5 = nI (nfd q)) (h6 : fgi t1 0 6 = 0) (h7 : fgi t1 0 7 = nI (dns q)) (h8 : fgi t1 0 8 = K) (h9 : fgj t1 0 9 = T) (hF : CF t1) (e : sameC t1 t2) (hB : RB t2 q) (hS : RS t2 q) (r5 : fgi t2 53 5 = nI (dns q)) (r6 : fgi t2 53 6 = 0) (r16 : fgi t2 53 16 = -9) (r11 : fgi t2 53 11 = K) (r12 : fgj t2 53 12 = T) : ST q 0 (fun _ => (0, 0, 0)) K T t2 := by
  refine ⟨⟨hq, by omega, fun j hj => by omega⟩, IC_same (t := t1) ⟨⟨hp, h5, h6, h7, h8, h9⟩, hF, fun j hj => by omega⟩ (by omega) e, hB, hS, fun c hc => by omega, Or.inl r16, r5, r6, r11, r12⟩
theorem CF_0 : CF ft0 := by
  intro i hi
  have e1 : fgi ft0 (6 + 3 * i) 1 = nI (i + 1) := by
    show (if 6 + 3 * i = 0 then _ else if 6 + 3 * i = 1 then _ else if 6 + 3 * i < 21 ∧ (6 + 3 * i) % 3 = 0 then _ else _) = _
    rw [if_neg (by omega), if_neg (by omega), if_pos (by omega), if_pos rfl, show (6 + 3 * i - 6) / 3 + 1 = i + 1 by omega]
  have e4 : fgi ft0 (6 + 3 * i) 4 = 0 := by
    show (if 6 + 3 * i = 0 then _ else if 6 + 3 * i = 1 then _ else if 6 + 3 * i < 21 ∧ (6 + 3 * i) % 3 = 0 then _ else _) = _
    rw [if_neg (by omega), if_neg (by omega), if_pos (by omega), if_neg (by omega), if_neg (by omega), if_neg (by omega)]
  refine ⟨e1, fun q hf he => ?_⟩
  rw [e4] at he
  have := isP_lo hf.1
  exact absurd he.symm (nI_ne0 (by omega) (by omega))
theorem ok_0 : fOK_0 Inv := by
  have hq : isP 2 := Or.inl rfl
  refine s_start (q := 2) hq CF_0 (fun t e1 hp h5 h6 h7 hF => ?_)
  refine m_begins (q := 2) hq (fun t2 e2 hB hS r5 r6 r16 => ?_)
  have sc : sameC t (ft1 t) := fun k hk => ⟨fun j => by
    show (if k = 53 then _ else t.1 k j) = t.1 k j
    rw [if_neg (by omega)], by
    show (if 53 ≤ k then _ else t.2.1 k) = t.2.1 k
    rw [if_neg (by omega)], fun j => by
    show (if k = 53 then _ else t.2.2.1 k j) = t.2.2.1 k j
    rw [if_neg (by omega)], by
    show (if 53 ≤ k then _ else t.2.2.2 k) = t.2.2.2 k
    rw [if_neg (by omega)]⟩
  exact ST_Inv (ST_new hq hp h5 h6 h7 e1.2.1 e1.2.2 hF (sameC_tr sc e2.1) hB hS r5 r6 r16 e2.2.1 e2.2.2)
theorem ok_1 : fOK_1 Inv := by
  intro t x ⟨q0, C, cv, K, T, hS⟩
  have h0 := ST_0 hS
  have go : ∀ q, isP q → x = nI (q + 1) → q_X4_start t x (fun t3 => q_X5_prime t3 x (fun r2 t2 => fgi t3 0 5 = r2 ∧ Inv t2)) := fun q hq ex => by
    subst ex
    refine s_start hq hS.2.1.2.1 (fun t3 e1 hp h5 h6 h7 hF t4 e4 => ?_)
    have eR := ST_0 hS
    have hK : fgi t3 53 11 = K := ((e1.1 53 (by omega)).1 11).trans hS.2.2.2.2.2.2.2.2.1
    have hT : fgj t3 53 12 = T := ((e1.1 53 (by omega)).2.2.1 12).trans hS.2.2.2.2.2.2.2.2.2
    have fin : q_X5_begins t4 (nI (q + 1)) (fun t2 => fgi t3 0 5 = fgi t2 53 2 ∧ Inv t2) := by
      refine m_begins hq (fun t2 e2 hB hS2 r5 r6 r16 => ⟨h5.trans hB.2.1.symm, ?_⟩)
      subst e4
      refine ST_Inv (ST_new hq hp h5 h6 h7 (e1.2.1.trans hS.2.1.1.2.2.2.2.1) (e1.2.2.trans hS.2.1.1.2.2.2.2.2) hF (sameC_tr (sameC_fsi t3 0 0) e2.1) hB hS2 r5 r6 r16 ?_ ?_)
      · rw [e2.2.1, gi_fsi, if_neg (by omega)]; exact hK
      · rw [e2.2.2]; exact hT
    rcases hq with rfl | rfl | rfl | rfl | rfl
    · exact ⟨fun _ => fin, fun c => absurd rfl c⟩
    · exact ⟨fun c => absurd c (by decide), fun _ => ⟨fun _ => fin, fun c => absurd rfl c⟩⟩
    · exact ⟨fun c => absurd c (by decide), fun _ => ⟨fun c => absurd c (by decide), fun _ => ⟨fun _ => fin, fun c => absurd rfl c⟩⟩⟩
    · exact ⟨fun c => absurd c (by decide), fun _ => ⟨fun c => absurd c (by decide), fun _ => ⟨fun c => absurd c (by decide), fun _ => ⟨fun _ => fin, fun c => absurd rfl c⟩⟩⟩⟩
    · exact ⟨fun c => absurd c (by decide), fun _ => ⟨fun c => absurd c (by decide), fun _ => ⟨fun c => absurd c (by decide), fun _ => ⟨fun c => absurd c (by decide), fun _ => ⟨fun _ => fin, fun c => absurd rfl c⟩⟩⟩⟩⟩
  have no : (∀ i, i < 5 → fPR i ≠ x) → q_X5_prime t x (fun r2 t2 => (-1 : Int32) = r2 ∧ Inv t2) := fun hno t1 e1 => by
    subst e1
    exact ⟨fun c => absurd c.symm (hno 0 (by omega)), fun _ => ⟨fun c => absurd c.symm (hno 1 (by omega)), fun _ => ⟨fun c => absurd c.symm (hno 2 (by omega)), fun _ => ⟨fun c => absurd c.symm (hno 3 (by omega)), fun _ => ⟨fun c => absurd c.symm (hno 4 (by omega)), fun _ => ⟨rfl, ST_Inv h0⟩⟩⟩⟩⟩⟩
  have key : ∀ d i, i + d = 5 → (∀ j, j < i → fPR j ≠ x) → q_X4_prime_10 (fun (r : Int32) (t1 : fcS) => q_X5_prime t1 x (fun (r2 : Int32) (t2 : fcS) => r = r2 ∧ Inv t2)) (d + 1) x 5 (nI i) t := by
    intro d
    induction d with
    | zero =>
      intro i e hno
      have e : i = 5 := by omega
      subst e
      unfold q_X4_prime_10
      exact ⟨fun _ => no hno, fun c => absurd (by decide) c⟩
    | succ d ih =>
      intro i e hno
      unfold q_X4_prime_10
      refine ⟨fun c => absurd ((nI_leI (a := 5) (by omega) (by omega)).mp c) (by omega), fun _ => ⟨vp_in_nI (by omega) (by omega), fun x1 e1 => ?_⟩⟩
      rw [nI_clamp (by omega)] at e1
      subst e1
      refine ⟨fun c x2 e2 => ?_, fun c => ?_⟩
      · rw [e2, nI_1]
        refine ih (i + 1) (by omega) (fun j hj => ?_)
        rcases Nat.lt_or_ge j i with w | w
        · exact hno j w
        · rw [show j = i by omega]; exact c
      · have hi : i = 0 ∨ i = 1 ∨ i = 2 ∨ i = 3 ∨ i = 4 := by omega
        rcases hi with rfl | rfl | rfl | rfl | rfl
        · exact go 2 (by unfold isP; omega) c.symm
        · exact go 4 (by unfold isP; omega) c.symm
        · exact go 6 (by unfold isP; omega) c.symm
        · exact go 10 (by unfold isP; omega) c.symm
        · exact go 12 (by unfold isP; omega) c.symm
  exact ⟨6, key 5 0 (by omega) (fun j hj => by omega)⟩
