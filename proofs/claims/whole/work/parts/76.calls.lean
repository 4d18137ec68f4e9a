/-! the calls on fields, class and reference -/
def eqU (t t2 : fcS) : Prop := (∀ k j, ¬ (k = 53 ∧ (j = 0 ∨ j = 15)) → fgi t2 k j = fgi t k j) ∧ (∀ k, k ≠ 60 → k ≠ 61 → k ≠ 64 → k ≠ 65 → fga t2 k = fga t k) ∧ t2.2.2.1 = t.2.2.1 ∧ ∀ k, k ≠ 66 → fgl t2 k = fgl t k
theorem eqU_rf (t : fcS) : eqU t t := ⟨fun _ _ _ => rfl, fun _ _ _ _ _ => rfl, rfl, fun _ _ => rfl⟩
theorem eqU_tr {t t2 t3 : fcS} (h : eqU t t2) (h2 : eqU t2 t3) : eqU t t3 := ⟨fun k j hj => (h2.1 k j hj).trans (h.1 k j hj), fun k a b c d => (h2.2.1 k a b c d).trans (h.2.1 k a b c d), h2.2.2.1.trans h.2.2.1, fun k hk => (h2.2.2.2 k hk).trans (h.2.2.2 k hk)⟩
theorem eqU_W {t t2 : fcS} (h : eqW t t2) : eqU t t2 := ⟨fun k j _ => eqW_gi h k j, fun k a _ _ _ => h.2.2 k a, by rw [h.2.1], fun k _ => by unfold fgl; rw [h.2.1]⟩
theorem eqU_fsi (t : fcS) {j : Nat} (hj : j = 0 ∨ j = 15) (v : Int32) : eqU t (fsi t 53 j v) := ⟨fun a b hb => by rw [gi_fsi, if_neg (fun z => hb ⟨z.1, by rw [z.2]; exact hj⟩)], fun _ _ _ _ _ => rfl, rfl, fun _ _ => rfl⟩
theorem eqU_fsa (t : fcS) {r : Nat} (hr : r = 60 ∨ r = 61 ∨ r = 64 ∨ r = 65) (i : Nat) (v : Int32) : eqU t (fsa t r i v) := ⟨fun _ _ _ => rfl, fun k a b c d => ga_fsaN t (by omega) i v, rfl, fun _ _ => rfl⟩
theorem sameC_U {t t2 : fcS} (h : eqU t t2) : sameC t t2 := fun k hk => ⟨fun j => h.1 k j (by omega), h.2.1 k (by omega) (by omega) (by omega) (by omega), fun j => by unfold fgj; rw [h.2.2.1], h.2.2.2 k (by omega)⟩
def ST (q C : Nat) (cv : Nat → Nat × Nat × Nat) (K : Int32) (T : Int64) (t : fcS) : Prop := IV q C cv ∧ IC q C cv K T t ∧ IR q C cv K T t
theorem ST_Inv {q C : Nat} {cv : Nat → Nat × Nat × Nat} {K : Int32} {T : Int64} {t : fcS} (h : ST q C cv K T t) : Inv t := ⟨q, C, cv, K, T, h⟩
theorem RB_U {t t2 : fcS} {q : Nat} (h : RB t q) (e : eqU t t2) : RB t2 q := by
  unfold RB mp at *
  rw [e.1 53 1 (by omega), e.1 53 2 (by omega), e.2.1 54 (by omega) (by omega) (by omega) (by omega), e.2.1 55 (by omega) (by omega) (by omega) (by omega)]
  exact h
theorem RC_U {t t2 : fcS} {q C : Nat} {cv : Nat → Nat × Nat × Nat} (h : RC t q C cv) (e : eqU t t2) : RC t2 q C cv := by
  unfold RC at *
  rw [e.2.1 56 (by omega) (by omega) (by omega) (by omega), e.2.1 57 (by omega) (by omega) (by omega) (by omega), e.2.1 58 (by omega) (by omega) (by omega) (by omega), e.2.1 59 (by omega) (by omega) (by omega) (by omega)]
  exact h
theorem ST_U {q C : Nat} {cv : Nat → Nat × Nat × Nat} {K : Int32} {T : Int64} {t t2 : fcS} (h : ST q C cv K T t) (e : eqU t t2) (hS : RS t2 q) : ST q C cv K T t2 := by
  obtain ⟨h1, h2, h3, h4, h5, h6, h7⟩ := h
  refine ⟨h1, IC_same h2 h1.2.1 (sameC_U e), RB_U h3 e, hS, RC_U h5 e, ?_, ?_⟩
  · unfold RLi at *
    rw [e.1 53 16 (by omega), e.1 53 17 (by omega), e.2.1 62 (by omega) (by omega) (by omega) (by omega), e.2.1 63 (by omega) (by omega) (by omega) (by omega)]
    exact h6
  · unfold RK at *
    rw [e.1 53 5 (by omega), e.1 53 6 (by omega), e.1 53 11 (by omega), show fgj t2 53 12 = fgj t 53 12 by unfold fgj; rw [e.2.2.1]]
    exact h7
theorem RS_W {t t2 : fcS} {q : Nat} (h : RS t q) (e : eqW t t2) : RS t2 q := by
  unfold RS at *
  rw [eqW_gi e, e.2.2 61 (by omega)]; exact h
theorem RS_0 {t : fcS} {q : Nat} (h : RS t q) : RS (fsi t 53 0 0) q := by
  unfold RS at *
  rw [gi_fsi, if_neg (by omega)]; exact h
theorem ST_W {q C : Nat} {cv : Nat → Nat × Nat × Nat} {K : Int32} {T : Int64} {t t2 : fcS} (h : ST q C cv K T t) (e : eqW t t2) : ST q C cv K T t2 := ST_U h (eqU_W e) (RS_W h.2.2.2.1 e)
theorem ST_0 {q C : Nat} {cv : Nat → Nat × Nat × Nat} {K : Int32} {T : Int64} {t : fcS} (h : ST q C cv K T t) : ST q C cv K T (fsi t 53 0 0) := ST_U h (eqU_fsi t (Or.inl rfl) 0) (RS_0 h.2.2.2.1)
theorem fisF_n {q n : Nat} (h : fl q n) : fisF (6 + 3 * (n - 1)) := by
  obtain ⟨-, f1, f2⟩ := nfd_ok h.1
  have := h.2
  unfold fisF; omega
theorem c_field {q C : Nat} {cv : Nat → Nat × Nat × Nat} {K : Int32} {T : Int64} {t : fcS} (hS : ST q C cv K T t) {x : Int32} {post : Option Nat → fcS → Prop} (h0 : (∀ n, fl q n → x ≠ nI n) → post none t) (h1 : ∀ n g t2, fl q n → x = nI n → eqF t t2 (6 + 3 * (n - 1)) → ST q C cv K T t2 → tb t2 q n (6 + 3 * (n - 1)) g → fisF (6 + 3 * (n - 1)) → post (some (6 + 3 * (n - 1))) t2) : q_X4_fieldAt t x post := by
  obtain ⟨hV, hI, hR⟩ := hS
  refine s_fieldAt hV.1 hV.2.1 hI h0 (fun n g t2 hf e e2 hI2 ht => h1 n g t2 hf e e2 ⟨hV, hI2, IR_same hR (sameR_F e2 ?_)⟩ ht (fisF_n hf))
  have := fisF_n hf
  unfold fisF at this; omega
theorem s_has {t : fcS} {q n k g : Nat} (h : fl q n) (ht : tb t q n k g) {x : Int32} {post : Int32 → fcS → Prop} (h0 : (∀ a, a < (q + 1) ^ n → x ≠ nI a) → post 0 t) (h1 : ∀ a, a < (q + 1) ^ n → x = nI a → post 1 t) : q_X2_has t k x post := by
  have hs := fl_sz h
  unfold q_X2_has
  rw [ht.1]
  rcases pk_ix x (n := (q + 1) ^ n) (by omega) with c | c | ⟨j, hj, e⟩
  · have h0' := h0 (fun a ha e => by rw [e] at c; exact nI_pos (by omega) c)
    exact ⟨fun _ => h0', fun z => absurd c z⟩
  · have h0' := h0 (fun a ha e => by rw [e] at c; exact absurd ((nI_leI (by omega) (by omega)).mp c) (by omega))
    exact ⟨fun _ => h0', fun _ => ⟨fun _ => h0', fun z => absurd c z⟩⟩
  · subst e
    refine ⟨fun c => absurd c (nI_pos (by omega)), fun _ => ⟨fun c => absurd ((nI_leI (by omega) (by omega)).mp c) (by omega), fun _ => h1 j hj rfl⟩⟩
theorem i0 : ¬ (1 : Int32) = 0 := by decide
theorem ok_2 : fOK_2 Inv := by
  intro t x ⟨q, C, cv, K, T, hS⟩
  refine c_field hS (fun hno => ⟨fun _ t1 e1 => ?_, fun i e => (nomatch e)⟩) (fun n g t2 hf e _ hS2 ht hk => ⟨fun e => (nomatch e), fun i2 e2 => ?_⟩)
  · subst e1
    have h0 := ST_0 hS
    exact m_isField h0.2.2.1 h0.1.1 (fun _ => ⟨fun _ => ⟨rfl, ST_Inv h0⟩, fun z => absurd rfl z⟩) (fun n hn e => absurd e (hno n hn))
  · obtain rfl := Option.some.inj e2
    refine ⟨hk, fun t1 e1 => ?_⟩
    subst e1
    have h0 := ST_0 hS2
    refine m_isField h0.2.2.1 h0.1.1 (fun c => absurd e (c n hf)) (fun n2 hn e2 => ⟨fun z => absurd z i0, fun _ => ?_⟩)
    have hn5 : n < 6 := by obtain ⟨-, f1, f2⟩ := nfd_ok hf.1; have := hf.2; omega
    rw [e]
    refine ⟨vp_in_nI hn5 (by omega), ?_, ST_Inv h0⟩
    rw [nI_clamp (by omega), (h0.2.2.1.2.2 n hf.2.1 hf.2.2).1]
    exact ht.1
theorem ok_3 : fOK_3 Inv := by
  intro t x ⟨q, C, cv, K, T, hS⟩
  refine c_field hS (fun hno => ⟨fun _ t1 e1 => ?_, fun i e => (nomatch e)⟩) (fun n g t2 hf e _ hS2 ht hk => ⟨fun e => (nomatch e), fun i2 e2 => ?_⟩)
  · subst e1
    have h0 := ST_0 hS
    exact m_isField h0.2.2.1 h0.1.1 (fun _ => ⟨fun _ => ⟨rfl, ST_Inv h0⟩, fun z => absurd rfl z⟩) (fun n hn e => absurd e (hno n hn))
  · obtain rfl := Option.some.inj e2
    refine ⟨hk, fun t1 e1 => ?_⟩
    subst e1
    have h0 := ST_0 hS2
    refine m_isField h0.2.2.1 h0.1.1 (fun c => absurd e (c n hf)) (fun n2 hn e2 => ⟨fun z => absurd z i0, fun _ => ?_⟩)
    have hn5 : n < 6 := by obtain ⟨-, f1, f2⟩ := nfd_ok hf.1; have := hf.2; omega
    rw [e]
    refine ⟨vp_in_nI hn5 (by omega), ?_, ST_Inv h0⟩
    rw [nI_clamp (by omega), (h0.2.2.1.2.2 n hf.2.1 hf.2.2).2]
    exact ht.2.2.1
/-- isNumber where the field is known -/
theorem fl_uq {q n n2 : Nat} (h : fl q n) (h2 : fl q n2) (e : nI n = nI n2) : n2 = n := by
  obtain ⟨-, f1, f2⟩ := nfd_ok h.1
  have := h.2
  have := h2.2
  exact ((nI_eq (by omega) (by omega)).mp e).symm
theorem m_num0 {t : fcS} {q : Nat} (hB : RB t q) (hq : isP q) {x y : Int32} {post : Int32 → fcS → Prop} (hno : ∀ n, fl q n → x ≠ nI n) (h0 : post 0 t) : q_X5_isNumber t x y post :=
  m_isNumber hB hq (fun _ => h0) (fun n a hn e _ _ => absurd e (hno n hn))
theorem m_num1 {t : fcS} {q n : Nat} (hB : RB t q) (hf : fl q n) {y : Int32} {post : Int32 → fcS → Prop} (hno : ∀ a, a < (q + 1) ^ n → y ≠ nI a) (h0 : post 0 t) : q_X5_isNumber t (nI n) y post :=
  m_isNumber hB hf.1 (fun _ => h0) (fun n2 a hn e ha e2 => by have := fl_uq hf hn e; subst this; exact absurd e2 (hno a ha))
theorem m_num2 {t : fcS} {q n a : Nat} (hB : RB t q) (hf : fl q n) (ha : a < (q + 1) ^ n) {post : Int32 → fcS → Prop} (h1 : post 1 t) : q_X5_isNumber t (nI n) (nI a) post :=
  m_isNumber hB hf.1 (fun c => absurd rfl (c n a hf rfl ha)) (fun _ _ _ _ _ _ => h1)
theorem ok_4 : fOK_4 Inv := by
  intro t x y z ⟨q, C, cv, K, T, hS⟩
  refine c_field hS (fun hno => ⟨fun _ t1 e1 => ?_, fun i e => (nomatch e)⟩) (fun n g t2 hf e _ hS2 ht hk => ⟨fun e => (nomatch e), fun i2 e2 => ?_⟩)
  · subst e1
    have h0 := ST_0 hS
    exact m_num0 h0.2.2.1 h0.1.1 hno ⟨fun _ => ⟨rfl, ST_Inv h0⟩, fun z => absurd rfl z⟩
  · obtain rfl := Option.some.inj e2
    subst e
    have h0 := ST_0 hS2
    refine ⟨hk, s_has hf ht (fun c => ⟨fun _ t1 e1 => ?_, fun z => absurd rfl z⟩) (fun a ha ea => ⟨fun z => absurd z i0, fun _ => s_has hf ht (fun c => ⟨fun z => absurd rfl z, fun _ t1 e1 => ?_⟩) (fun b hb eb => ⟨fun _ => ?_, fun z => absurd z i0⟩)⟩)⟩
    · subst e1
      exact m_num1 h0.2.2.1 hf c ⟨fun _ => ⟨rfl, ST_Inv h0⟩, fun z => absurd rfl z⟩
    · subst e1 ea
      exact m_num2 h0.2.2.1 hf ha ⟨fun z => absurd z i0, fun _ => m_num1 h0.2.2.1 hf c ⟨fun _ => ⟨rfl, ST_Inv h0⟩, fun z => absurd rfl z⟩⟩
    · subst ea eb
      have hs := fl_sz hf
      refine s_ad hf.1 hS2.2.1.1.1 hs.2.2 ha hb (fun t1 e1 => ?_)
      subst e1
      exact m_num2 h0.2.2.1 hf ha ⟨fun z => absurd z i0, fun _ => m_num2 h0.2.2.1 hf hb ⟨fun z => absurd z i0, fun _ => m_sum hf.1 h0.2.2.1.1 hs.2.2 ha hb ⟨rfl, ST_Inv h0⟩⟩⟩
theorem ok_5 : fOK_5 Inv := by
  intro t x y z ⟨q, C, cv, K, T, hS⟩
  refine c_field hS (fun hno => ⟨fun _ t1 e1 => ?_, fun i e => (nomatch e)⟩) (fun n g t2 hf e _ hS2 ht hk => ⟨fun e => (nomatch e), fun i2 e2 => ?_⟩)
  · subst e1
    have h0 := ST_0 hS
    exact m_num0 h0.2.2.1 h0.1.1 hno ⟨fun _ => ⟨rfl, ST_Inv h0⟩, fun z => absurd rfl z⟩
  · obtain rfl := Option.some.inj e2
    subst e
    have h0 := ST_0 hS2
    refine ⟨hk, s_has hf ht (fun c => ⟨fun _ t1 e1 => ?_, fun z => absurd rfl z⟩) (fun a ha ea => ⟨fun z => absurd z i0, fun _ => s_has hf ht (fun c => ⟨fun z => absurd rfl z, fun _ t1 e1 => ?_⟩) (fun b hb eb => ⟨fun _ => ?_, fun z => absurd z i0⟩)⟩)⟩
    · subst e1
      exact m_num1 h0.2.2.1 hf c ⟨fun _ => ⟨rfl, ST_Inv h0⟩, fun z => absurd rfl z⟩
    · subst e1 ea
      exact m_num2 h0.2.2.1 hf ha ⟨fun z => absurd z i0, fun _ => m_num1 h0.2.2.1 hf c ⟨fun _ => ⟨rfl, ST_Inv h0⟩, fun z => absurd rfl z⟩⟩
    · subst ea eb
      refine s_prod hf ht ha hb (fun t1 e1 => ?_)
      subst e1
      exact m_num2 h0.2.2.1 hf ha ⟨fun z => absurd z i0, fun _ => m_num2 h0.2.2.1 hf hb ⟨fun z => absurd z i0, fun _ => m_prod h0.2.2.1 hf ha hb (fun t3 e3 => ⟨rfl, ST_Inv (ST_W h0 e3)⟩)⟩⟩
/-- the one number by which a gives 1 -/
theorem ml_uq {q n a b c : Nat} (h : fl q n) (ha : a < (q + 1) ^ n) (hb : b < (q + 1) ^ n) (hc : c < (q + 1) ^ n) (e1 : ml q n a b = 1) (e2 : ml q n a c = 1) : b = c := by
  have h1 : ml q n (ml q n b a) c = c := by rw [ml_comm q n b a, e1, ml_comm, ml_one h hc]
  rw [ml_assoc h hb ha hc, e2, ml_one h hb] at h1
  exact h1
theorem m_over {t : fcS} {q n a b : Nat} (hB : RB t q) (h : fl q n) (ha : a < (q + 1) ^ n) (hb : b < (q + 1) ^ n) (b1 : 1 ≤ b) (e1 : ml q n a b = 1) {post : Int32 → fcS → Prop} (hh : ∀ t2, eqW t t2 → post (nI b) t2) : ∃ n0, q_X5_over_25 post n0 (nI n) (nI a) 1 t := by
  have hs := fl_sz h
  have key : ∀ d v (t1 : fcS), v + d = b → eqW t t1 → q_X5_over_25 post (d + 1) (nI n) (nI a) (nI v) t1 := by
    intro d
    induction d with
    | zero =>
      intro v t1 e he
      have e : v = b := by omega
      subst e
      unfold q_X5_over_25
      refine m_prod (RB_W hB he) h ha hb (fun t2 e2 => ?_)
      rw [e1]
      exact ⟨fun _ => hh t2 (eqW_tr he e2), fun z => absurd rfl z⟩
    | succ d ih =>
      intro v t1 e he
      unfold q_X5_over_25
      refine m_prod (RB_W hB he) h ha (show v < (q + 1) ^ n by omega) (fun t2 e2 => ⟨fun c => ?_, fun _ x6 e6 => ?_⟩)
      · have hlt := ml_lt q n a v
        have := (nI_eq (b := 1) (by omega) (by omega)).mp c
        have := ml_uq h ha (show v < (q + 1) ^ n by omega) hb this e1
        omega
      · rw [e6, nI_1]
        exact ih (v + 1) t2 (by omega) (eqW_tr he e2)
  exact ⟨_, key (b - 1) 1 t (by omega) (eqW_rf t)⟩
theorem ok_6 : fOK_6 Inv := by
  intro t x y ⟨q, C, cv, K, T, hS⟩
  refine c_field hS (fun hno => ⟨fun _ t1 e1 => ?_, fun i e => (nomatch e)⟩) (fun n g t2 hf e _ hS2 ht hk => ⟨fun e => (nomatch e), fun i2 e2 => ?_⟩)
  · subst e1
    have h0 := ST_0 hS
    exact m_num0 h0.2.2.1 h0.1.1 hno ⟨fun z => absurd rfl z, fun _ => ⟨rfl, ST_Inv h0⟩⟩
  · obtain rfl := Option.some.inj e2
    subst e
    have h0 := ST_0 hS2
    have hs := fl_sz hf
    refine ⟨hk, s_has hf ht (fun c => ⟨fun z => absurd rfl z, fun _ t1 e1 => ?_⟩) (fun a ha ea => ⟨fun _ => ⟨fun c => ?_, fun c t1 e1 => ?_⟩, fun z => absurd z i0⟩)⟩
    · subst e1
      exact m_num1 h0.2.2.1 hf c ⟨fun z => absurd rfl z, fun _ => ⟨rfl, ST_Inv h0⟩⟩
    · subst ea
      have a0 : a ≠ 0 := fun z => c (by rw [z]; rfl)
      rw [ht.2.1, show (1 : Int32) = nI 1 from rfl, pk_sub (by omega)]
      refine s_pow hf ht ha (by omega) (fun t1 e1 => ?_)
      subst e1
      refine m_num2 h0.2.2.1 hf ha ⟨fun _ => ⟨fun _ => ?_, fun z => absurd z c⟩, fun z => absurd z i0⟩
      have e1 : ml q n a (pw q n a ((q + 1) ^ n - 1 - 1)) = 1 := by
        rw [ml_comm, ← pw_s hf ha, show (q + 1) ^ n - 1 - 1 + 1 = (q + 1) ^ n - 1 by omega, pw_units hf a0 ha]
      refine m_over h0.2.2.1 hf ha (pw_lt _ _ _ _) ?_ e1 (fun t3 e3 => ⟨rfl, ST_Inv (ST_W h0 e3)⟩)
      rcases Nat.eq_zero_or_pos (pw q n a ((q + 1) ^ n - 1 - 1)) with w | w
      · rw [w, ml_zero hf] at e1; omega
      · exact w
    · subst e1 ea
      exact m_num2 h0.2.2.1 hf ha ⟨fun _ => ⟨fun z => absurd c z, fun _ => ⟨rfl, ST_Inv h0⟩⟩, fun z => absurd z i0⟩
theorem ok_7 : fOK_7 Inv := by
  intro t x y z ⟨q, C, cv, K, T, hS⟩
  refine c_field hS (fun hno => ⟨fun _ t1 e1 => ?_, fun i e => (nomatch e)⟩) (fun n g t2 hf e _ hS2 ht hk => ⟨fun e => (nomatch e), fun i2 e2 => ?_⟩)
  · subst e1
    have h0 := ST_0 hS
    exact m_num0 h0.2.2.1 h0.1.1 hno ⟨fun _ => ⟨rfl, ST_Inv h0⟩, fun z => absurd rfl z⟩
  · obtain rfl := Option.some.inj e2
    subst e
    have h0 := ST_0 hS2
    refine ⟨hk, s_has hf ht (fun c => ⟨fun _ t1 e1 => ?_, fun z => absurd rfl z⟩) (fun a ha ea => ⟨fun z => absurd z i0, fun _ => ⟨fun c => ?_, fun c t1 e1 => ?_⟩⟩)⟩
    · subst e1
      exact m_num1 h0.2.2.1 hf c ⟨fun _ => ⟨rfl, ST_Inv h0⟩, fun z => absurd rfl z⟩
    · subst ea
      have hz : ¬ z < 0 := fun w => by
        rw [Int32.lt_iff_toInt_lt] at w
        rw [Int32.le_iff_toInt_le] at c
        omega
      obtain ⟨e, he, rfl⟩ := nI_of hz
      refine s_pow hf ht ha he (fun t1 e1 => ?_)
      subst e1
      exact m_num2 h0.2.2.1 hf ha ⟨fun w => absurd w i0, fun _ => ⟨fun w => absurd w hz, fun _ => m_pow h0.2.2.1 hf ha he (fun t3 e3 => ⟨rfl, ST_Inv (ST_W h0 e3)⟩)⟩⟩
    · subst e1 ea
      have hz : z < 0 := by
        rw [Int32.lt_iff_toInt_lt]
        rw [Int32.le_iff_toInt_le] at c
        omega
      exact m_num2 h0.2.2.1 hf ha ⟨fun w => absurd w i0, fun _ => ⟨fun _ => ⟨rfl, ST_Inv h0⟩, fun w => absurd hz w⟩⟩
theorem m_turns {t : fcS} {q n a e : Nat} (hB : RB t q) (h : fl q n) (ha : a < (q + 1) ^ n) (e1 : 1 ≤ e) (he : pw q n a e = 1) (hj : ∀ j, 1 ≤ j → j < e → pw q n a j ≠ 1) {post : Int32 → fcS → Prop} (hh : ∀ t2, eqW t t2 → post (nI e) t2) : ∃ n0, q_X5_turns_28 post n0 (nI n) (nI a) 1 (nI a) t := by
  have hs := fl_sz h
  have key : ∀ d v (t1 : fcS), v + d = e → 1 ≤ v → eqW t t1 → q_X5_turns_28 post (d + 1) (nI n) (nI a) (nI v) (nI (pw q n a v)) t1 := by
    intro d
    induction d with
    | zero =>
      intro v t1 ev _ he1
      have ev : v = e := by omega
      subst ev
      unfold q_X5_turns_28
      rw [he]
      exact ⟨fun _ => hh t1 he1, fun z => absurd rfl z⟩
    | succ d ih =>
      intro v t1 ev v1 he1
      unfold q_X5_turns_28
      have hlt := pw_lt q n a v
      refine ⟨fun c => absurd ((nI_eq (b := 1) (by omega) (by omega)).mp c) (hj v v1 (by omega)), fun _ => ?_⟩
      refine m_prod (RB_W hB he1) h hlt ha (fun t2 e2 x6 e6 => ?_)
      rw [e6, nI_1, ← pw_s h ha]
      exact ih (v + 1) t2 (by omega) (by omega) (eqW_tr he1 e2)
  have := key (e - 1) 1 t (by omega) (Nat.le_refl 1) (eqW_rf t)
  rw [pw_1 h ha] at this
  exact ⟨_, this⟩
theorem ok_9 : fOK_9 Inv := by
  intro t x y ⟨q, C, cv, K, T, hS⟩
  refine c_field hS (fun hno => ⟨fun _ t1 e1 => ?_, fun i e => (nomatch e)⟩) (fun n g t2 hf e _ hS2 ht hk => ⟨fun e => (nomatch e), fun i2 e2 => ?_⟩)
  · subst e1
    have h0 := ST_0 hS
    exact m_num0 h0.2.2.1 h0.1.1 hno ⟨fun z => absurd rfl z, fun _ => ⟨rfl, ST_Inv h0⟩⟩
  · obtain rfl := Option.some.inj e2
    subst e
    have h0 := ST_0 hS2
    have hs := fl_sz hf
    refine ⟨hk, s_has hf ht (fun c => ⟨fun z => absurd rfl z, fun _ t1 e1 => ?_⟩) (fun a ha ea => ⟨fun _ => ⟨fun c => ?_, fun c t1 e1 => ?_⟩, fun z => absurd z i0⟩)⟩
    · subst e1
      exact m_num1 h0.2.2.1 hf c ⟨fun z => absurd rfl z, fun _ => ⟨rfl, ST_Inv h0⟩⟩
    · subst ea
      have a0 : a ≠ 0 := fun z => c (by rw [z]; rfl)
      refine s_turns hf ht a0 ha (fun e e1 e2 e3 e4 t1 et => ?_)
      subst et
      exact m_num2 h0.2.2.1 hf ha ⟨fun _ => ⟨fun _ => m_turns h0.2.2.1 hf ha e1 e3 e4 (fun t3 e3 => ⟨rfl, ST_Inv (ST_W h0 e3)⟩), fun z => absurd z c⟩, fun z => absurd z i0⟩
    · subst e1 ea
      exact m_num2 h0.2.2.1 hf ha ⟨fun _ => ⟨fun z => absurd c z, fun _ => ⟨rfl, ST_Inv h0⟩⟩, fun z => absurd z i0⟩
/-- TRACE, k turns on -/
noncomputable def trc (q n : Nat) : Nat → Nat → Nat → Nat
  | 0, s, _ => s
  | k + 1, s, x => trc q n k (ad q s x) (pw q n x (q + 1))
theorem c_trc {t : fcS} {q n k g : Nat} (h : fl q n) (hp : rp t q) (ht : tb t q n k g) {post : Int32 → fcS → Prop} {a : Nat} (hh : ∀ r, r = nI a → post r t) : ∀ d i s x, i + d = n → s < (q + 1) ^ n → x < (q + 1) ^ n → trc q n d s x = a → q_X4_trace_29 k post (d + 1) (nI n) (nI s) (nI x) (nI i) t := by
  have hs := fl_sz h
  have hn5 : n < 6 := by obtain ⟨-, f1, f2⟩ := nfd_ok h.1; have := h.2; omega
  have hl := isP_lo h.1
  intro d
  induction d with
  | zero =>
    intro i s x e hs1 hx ea
    unfold q_X4_trace_29
    rw [trc] at ea
    exact ⟨fun _ => hh _ (by rw [ea]), fun c => absurd (nI_le (by omega) (by omega)) c⟩
  | succ d ih =>
    intro i s x e hs1 hx ea
    unfold q_X4_trace_29
    refine ⟨fun c => absurd ((nI_leI (by omega) (by omega)).mp c) (by omega), fun _ => ?_⟩
    refine s_ad h.1 hp hs.2.2 hs1 hx ?_
    rw [show fgi t 1 0 = nI (q + 1) from hp]
    refine s_pow h ht hx (by omega) (fun x9 e9 => ?_)
    rw [e9, nI_1]
    rw [trc] at ea
    exact ih (i + 1) _ _ (by omega) (ad_lt h.1 hs.2.2 hs1 hx).1 (pw_lt _ _ _ _) ea
theorem m_trc {t : fcS} {q n : Nat} (h : fl q n) (hB : RB t q) {post : Int32 → fcS → Prop} {a : Nat} (hh : ∀ t2, eqW t t2 → post (nI a) t2) : ∀ d i s x (t1 : fcS), i + d = n → s < (q + 1) ^ n → x < (q + 1) ^ n → trc q n d s x = a → eqW t t1 → q_X5_trace_24 post (d + 1) (nI n) (nI s) (nI x) (nI i) t1 := by
  have hs := fl_sz h
  have hn5 : n < 6 := by obtain ⟨-, f1, f2⟩ := nfd_ok h.1; have := h.2; omega
  have hl := isP_lo h.1
  intro d
  induction d with
  | zero =>
    intro i s x t1 e hs1 hx ea e1
    unfold q_X5_trace_24
    rw [trc] at ea
    exact ⟨fun _ => by rw [ea]; exact hh t1 e1, fun c => absurd (nI_le (by omega) (by omega)) c⟩
  | succ d ih =>
    intro i s x t1 e hs1 hx ea e1
    unfold q_X5_trace_24
    refine ⟨fun c => absurd ((nI_leI (by omega) (by omega)).mp c) (by omega), fun _ => ?_⟩
    have hB1 := RB_W hB e1
    refine m_sum h.1 hB1.1 hs.2.2 hs1 hx ?_
    rw [show fgi t1 53 1 = nI (q + 1) from hB1.1]
    refine m_pow hB1 h hx (by omega) (fun t2 e2 x9 e9 => ?_)
    rw [e9, nI_1]
    rw [trc] at ea
    exact ih (i + 1) _ _ t2 (by omega) (ad_lt h.1 hs.2.2 hs1 hx).1 (pw_lt _ _ _ _) ea (eqW_tr e1 e2)
theorem ok_10 : fOK_10 Inv := by
  intro t x y ⟨q, C, cv, K, T, hS⟩
  refine c_field hS (fun hno => ⟨fun _ t1 e1 => ?_, fun i e => (nomatch e)⟩) (fun n g t2 hf e _ hS2 ht hk => ⟨fun e => (nomatch e), fun i2 e2 => ?_⟩)
  · subst e1
    have h0 := ST_0 hS
    exact m_num0 h0.2.2.1 h0.1.1 hno ⟨fun z => absurd rfl z, fun _ => ⟨rfl, ST_Inv h0⟩⟩
  · obtain rfl := Option.some.inj e2
    subst e
    have h0 := ST_0 hS2
    have hs := fl_sz hf
    refine ⟨hk, s_has hf ht (fun c => ⟨fun z => absurd rfl z, fun _ t1 e1 => ?_⟩) (fun a ha ea => ⟨fun _ => ?_, fun z => absurd z i0⟩)⟩
    · subst e1
      exact m_num1 h0.2.2.1 hf c ⟨fun z => absurd rfl z, fun _ => ⟨rfl, ST_Inv h0⟩⟩
    · subst ea
      refine ⟨n + 1, ?_⟩
      refine c_trc hf hS2.2.1.1.1 ht (a := trc q n n 0 a) (fun r er t1 e1 => ?_) n 0 0 a (by omega) (by omega) ha rfl
      subst e1 er
      refine m_num2 h0.2.2.1 hf ha ⟨fun _ => ⟨n + 1, ?_⟩, fun z => absurd z i0⟩
      exact m_trc hf h0.2.2.1 (a := trc q n n 0 a) (fun t3 e3 => ⟨rfl, ST_Inv (ST_W h0 e3)⟩) n 0 0 a _ (by omega) (by omega) ha rfl (eqW_rf _)
theorem ok_13 : fOK_13 Inv := by
  intro t ⟨q, C, cv, K, T, hS⟩ t1 e1
  subst e1
  have h0 := ST_0 hS
  exact ⟨hS.2.1.1.2.2.2.2.1.trans h0.2.2.2.2.2.2.2.2.1.symm, ST_Inv h0⟩
theorem ok_31 : fOK_31 Inv := by
  intro t ⟨q, C, cv, K, T, hS⟩ t1 e1
  subst e1
  have h0 := ST_0 hS
  exact ⟨hS.2.1.1.2.2.2.2.2.trans h0.2.2.2.2.2.2.2.2.2.symm, ST_Inv h0⟩
theorem ok_30 : fOK_30 Inv := by
  intro t x ⟨q, C, cv, K, T, hS⟩
  have h0 := ST_0 hS
  have hi := ST_Inv h0
  refine ⟨fun c0 t1 e1 => ?_, fun c0 => ⟨fun c1 t1 e1 => ?_, fun c1 => ⟨fun c2 t1 e1 => ?_, fun c2 => ⟨fun c3 t1 e1 => ?_, fun c3 t1 e1 => ?_⟩⟩⟩⟩ <;> subst e1
  · exact ⟨fun z => absurd c0 z, fun _ => ⟨hS.2.1.1.1.trans h0.2.2.1.1.symm, hi⟩⟩
  · exact ⟨fun _ => ⟨fun z => absurd c1 z, fun _ => ⟨hS.2.1.1.2.1.trans h0.2.2.1.2.1.symm, hi⟩⟩, fun z => absurd z c0⟩
  · exact ⟨fun _ => ⟨fun _ => ⟨fun z => absurd c2 z, fun _ => ⟨hS.2.1.1.2.2.1.trans h0.2.2.2.2.2.2.2.1.symm, hi⟩⟩, fun z => absurd z c1⟩, fun z => absurd z c0⟩
  · exact ⟨fun _ => ⟨fun _ => ⟨fun _ => ⟨fun z => absurd c3 z, fun _ => ⟨hS.2.1.1.2.2.2.1.trans h0.2.2.2.2.2.2.1.symm, hi⟩⟩, fun z => absurd z c2⟩, fun z => absurd z c1⟩, fun z => absurd z c0⟩
  · exact ⟨fun _ => ⟨fun _ => ⟨fun _ => ⟨fun _ => ⟨rfl, hi⟩, fun z => absurd z c3⟩, fun z => absurd z c2⟩, fun z => absurd z c1⟩, fun z => absurd z c0⟩
