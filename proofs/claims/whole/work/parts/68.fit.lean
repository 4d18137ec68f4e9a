/-! the class's fields: their rows are made -/
theorem Ni_pn {q m u : Nat} (hq : isP q) (hm : (q + 1) ^ m < 2 ^ 30) (hu : u < (q + 1) ^ m) : nI u = Ni q (pn q u) := by
  rw [Ni_dl (isP_lo hq).1 hm (pn_dl hu), nu_pn hu]
theorem ga_fsaG (t : fcS) (r k : Nat) (v : Int32) (j : Nat) : fga (fsa t r k v) r j = if j = k then v else fga t r j := by
  show (if r = r then upd (t.2.1 r) k v else t.2.1 r) j = _
  rw [if_pos rfl]; rfl
theorem ga_fsaN (t : fcS) {r a : Nat} (h : a ≠ r) (k : Nat) (v : Int32) : fga (fsa t r k v) a = fga t a := by
  show (if a = r then upd (t.2.1 r) k v else t.2.1 a) = t.2.1 a
  rw [if_neg h]
theorem s_at {t : fcS} {r n i : Nat} (hi : i < n) (hn : n < 2 ^ 31) {post : Int32 → fcS → Prop} (h : post (fga t r i) t) : q_X4_at t r n (nI i) post := by
  refine ⟨fun c => absurd c (nI_pos (by omega)), fun _ => ⟨fun c => absurd ((nI_leI (a := n) hn (by omega)).mp c) (by omega), fun _ => ⟨vp_in_nI hi hn, ?_⟩⟩⟩
  rw [nI_clamp (by omega)]; exact h
theorem s_put {t : fcS} {r n i : Nat} (hi : i < n) (hn : n < 2 ^ 31) {v : Int32} {post : fcS → Prop} (h : post (fsa t r i v)) : q_X4_put t r n (nI i) v post := by
  refine ⟨fun c => absurd c (nI_pos (by omega)), fun _ => ⟨fun c => absurd ((nI_leI (a := n) hn (by omega)).mp c) (by omega), fun _ => ⟨vp_in_nI hi hn, fun t1 e1 => ?_⟩⟩⟩
  rw [nI_clamp (by omega)] at e1
  rw [e1]; exact h
/-- size and M(n) of a field that is there -/
theorem fsz {q n : Nat} (hq : isP q) (hn1 : 1 ≤ n) (hn : n ≤ nfd q) : 3 ≤ (q + 1) ^ n ∧ (q + 1) ^ n ≤ 343 ∧ (q + 1) ^ n ≤ Mnu q n ∧ Mnu q n < 2 * (q + 1) ^ n ∧ n ≤ 5 := by
  have hl := isP_lo hq
  obtain ⟨-, f1, f2⟩ := nfd_ok hq
  obtain ⟨m1, m2, m3, -, -⟩ := Mnu_ok hq n (by omega) hn1 hn
  have : (q + 1) ^ 1 ≤ (q + 1) ^ n := Nat.pow_le_pow_right (by omega) hn1
  rw [Nat.pow_one] at this
  exact ⟨by omega, m3, m1, m2, by omega⟩
theorem pw10 {q n : Nat} (hq : isP q) (hn1 : 1 ≤ n) (hn : n ≤ nfd q) : (q + 1) ^ (2 * n + 1) < 2 ^ 30 := by
  have hl := isP_lo hq
  obtain ⟨a1, a2, -, -, -⟩ := fsz hq hn1 hn
  have e : (q + 1) ^ (2 * n + 1) = (q + 1) ^ n * (q + 1) ^ n * (q + 1) := by rw [Nat.pow_succ, Nat.two_mul, Nat.pow_add]
  rw [e]
  have h1 : (q + 1) ^ n * (q + 1) ^ n ≤ 343 * 343 := Nat.mul_le_mul a2 a2
  have h2 : (q + 1) ^ n * (q + 1) ^ n * (q + 1) ≤ 343 * 343 * 13 := Nat.mul_le_mul h1 (by omega)
  omega
theorem l_isP1 {t : fcS} {q n u d : Nat} (hq : isP q) (hp : rp t q) {m : Nat} (hm : (q + 1) ^ m < 2 ^ 30) (hu : u < (q + 1) ^ m) (hd : d + 1 ≤ m) {post : Int32 → fcS → Prop} {k2 : Int32 → Int32 → Int32 → fcS → Prop} (h1 : ∀ w, (q + 1) ^ d ≤ w → w < 2 * (q + 1) ^ d → prem (pn q u) (pn q w) = pz → post 1 t) (h2 : (∀ w, (q + 1) ^ d ≤ w → w < 2 * (q + 1) ^ d → prem (pn q u) (pn q w) ≠ pz) → k2 (nI u) (nI n) (nI (d + 1)) t) : ∀ c v, v + c = (q + 1) ^ d → (∀ w, (q + 1) ^ d ≤ w → w < (q + 1) ^ d + v → prem (pn q u) (pn q w) ≠ pz) → q_X3_isProduct_20 post k2 (c + 1) (nI u) (nI n) (nI d) (nI ((q + 1) ^ d)) (nI ((q + 1) ^ d + v)) t := by
  have hl := isP_lo hq
  have hpd : (q + 1) ^ (d + 1) ≤ (q + 1) ^ m := Nat.pow_le_pow_right (by omega) hd
  have hpd2 : (q + 1) ^ (d + 1) = (q + 1) ^ d * (q + 1) := Nat.pow_succ _ _
  have hpd3 : (q + 1) ^ d * 3 ≤ (q + 1) ^ d * (q + 1) := Nat.mul_le_mul_left _ (by omega)
  intro c
  induction c with
  | zero =>
    intro v e hw
    unfold q_X3_isProduct_20
    have e2 : v = (q + 1) ^ d := by omega
    refine ⟨fun _ x3 e3 => ?_, fun c9 => absurd ?_ c9⟩
    · rw [e3, nI_1]
      exact h2 (fun w a b => hw w a (by omega))
    · rw [show (2 : Int32) = nI 2 from rfl, pk_mul]
      exact nI_le (by omega) (by omega)
  | succ c ih =>
    intro v e hw
    unfold q_X3_isProduct_20
    refine ⟨fun c9 => ?_, fun _ => ?_⟩
    · rw [show (2 : Int32) = nI 2 from rfl, pk_mul] at c9
      exact absurd ((nI_leI (by omega) (by omega)).mp c9) (by omega)
    · rw [Ni_pn hq hm hu, Ni_pn (u := (q + 1) ^ d + v) hq hm (by omega)]
      refine s_rest hq hp hm (pn_dl hu) (pn_dl (show (q + 1) ^ d + v < (q + 1) ^ m by omega)) ?_
      have hrd : dl (prem (pn q u) (pn q ((q + 1) ^ d + v))) m := by
        obtain ⟨m1, m2⟩ := pn_mon (u := (q + 1) ^ d + v) (n := d) hq (by omega) (by omega)
        have h0 : pn q ((q + 1) ^ d + v) d ≠ 0 := fun z => by
          rw [m2] at z
          exact one_ne hq (funext fun i => by show (if i = 0 then (1 : Fin (q + 1)) else 0) = 0; split; exact z; rfl)
        exact dl_mono (pqr_is hq (pn_dl hu) m1 h0).2.2.1 (by omega)
      refine ⟨fun c9 x6 e6 => ?_, fun c9 => ?_⟩
      · have hne : prem (pn q u) (pn q ((q + 1) ^ d + v)) ≠ pz := fun z => c9 ((Ni_eq0 hq hm hrd).mpr z)
        rw [← Ni_pn (u := (q + 1) ^ d + v) hq hm (by omega), nI_1] at e6
        rw [e6, ← Ni_pn hq hm hu]
        refine ih (v + 1) (by omega) (fun w a b => ?_)
        rcases Nat.lt_or_ge w ((q + 1) ^ d + v) with x | x
        · exact hw w a x
        · rw [show w = (q + 1) ^ d + v by omega]; exact hne
      · exact h1 _ (by omega) (by omega) ((Ni_eq0 hq hm hrd).mp c9)
theorem l_isP2 {t : fcS} {q n u : Nat} (hq : isP q) (hp : rp t q) {m : Nat} (hm : (q + 1) ^ m < 2 ^ 30) (hu : u < (q + 1) ^ m) (hn : n + 1 ≤ m) {post : Int32 → fcS → Prop} (h1 : ¬ irr q n u → post 1 t) (h0 : irr q n u → post 0 t) : ∀ c d, d + c = n / 2 + 1 → 1 ≤ d → (∀ d' w, 1 ≤ d' → d' < d → (q + 1) ^ d' ≤ w → w < 2 * (q + 1) ^ d' → prem (pn q u) (pn q w) ≠ pz) → q_X3_isProduct_2 post (c + 1) (nI u) (nI n) (nI d) t := by
  have hl := isP_lo hq
  have h18 := pow18 hl.1 hm
  intro c
  induction c with
  | zero =>
    intro d e hd hall
    unfold q_X3_isProduct_2
    rw [show (2 : Int32) = nI 2 from rfl, pk_div (by omega) (by omega) (by omega)]
    refine ⟨nI_ne0 (by omega) (by omega), fun _ => h0 (fun d' w a b => hall d' w a (by omega)), fun c9 => absurd (nI_lt (by omega) (by omega)) c9⟩
  | succ c ih =>
    intro d e hd hall
    unfold q_X3_isProduct_2
    rw [show (2 : Int32) = nI 2 from rfl, pk_div (by omega) (by omega) (by omega)]
    refine ⟨nI_ne0 (by omega) (by omega), fun c9 => absurd ((nI_ltI (by omega) (by omega)).mp c9) (by omega), fun _ => ?_⟩
    refine s_place hp (Nat.lt_of_le_of_lt (Nat.pow_le_pow_right (by omega) (show d ≤ m by omega)) hm) (by omega) ⟨(q + 1) ^ d + 1, ?_⟩
    have := l_isP1 (n := n) (d := d) hq hp hm hu (by omega) (post := post) (k2 := fun v1_ v2_ v3_ t_ => q_X3_isProduct_2 post (c + 1) v1_ v2_ v3_ t_) (fun w a b z => h1 (fun hi => hi d w hd (by omega) a b z)) (fun hno => ih (d + 1) (by omega) (by omega) (fun d' w a b x y => by
      rcases Nat.lt_or_ge d' d with z | z
      · exact hall d' w a z x y
      · have : d' = d := by omega
        subst this
        exact hno w x y)) ((q + 1) ^ d) 0 (by omega) (fun w a b => by omega)
    rw [Nat.add_zero] at this
    exact this
theorem s_isProd {t : fcS} {q n u : Nat} (hq : isP q) (hp : rp t q) {m : Nat} (hm : (q + 1) ^ m < 2 ^ 30) (hu : u < (q + 1) ^ m) (hn : n + 1 ≤ m) {post : Int32 → fcS → Prop} (h1 : ¬ irr q n u → post 1 t) (h0 : irr q n u → post 0 t) : q_X3_isProduct t (nI u) (nI n) post :=
  ⟨_, l_isP2 hq hp hm hu hn h1 h0 (n / 2) 1 (by omega) (Nat.le_refl 1) (fun d' w a b => by omega)⟩
