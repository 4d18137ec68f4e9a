noncomputable abbrev pfl {q : Nat} (d : Nat) (a b : PS q) : Fin (q + 1) := fiv q (pge d a b (ptop (pge d a b)))
theorem l_com {q : Nat} (hq : isP q) {t : fcS} (hp : mp t q) {v1 v2 v3 K : Nat} (h1 : v1 < 30) (h2 : v2 < 30) (h3 : v3 < 30) (d1 : v1 ≠ v2) (d2 : v1 ≠ v3) (d3 : v2 ≠ v3) (hK : K ≤ 14) {post : fcS → Prop} : ∀ (d da : Nat) (a b x x' y y' : PS q) (t1 : fcS), dl a (da + 1) → a da ≠ 0 → da ≤ K → dl b da → dl b d → dl x (K - da + 1) → dl x' (K - da + 1) → dl y (K - da + 1) → dl y' (K - da + 1) → eqL t t1 (cmL v1 v2 v3) → rwI t1 v1 a → rwI t1 30 b → rwI t1 v2 x → rwI t1 31 x' → rwI t1 v3 y → rwI t1 32 y' → (∀ t2, eqL t t2 (cmL v1 v2 v3) → rwI t2 v1 (pscl (pge d a b) (pfl d a b)) → rwI t2 v2 (pscl (pgx d a b x x') (pfl d a b)) → rwI t2 v3 (pscl (pgx d a b y y') (pfl d a b)) → post t2) → q_X5_common_39 post (d + 1) (nI v1) (nI v2) (nI v3) t1 := by
  intro d
  induction d with
  | zero =>
    intro da a b x x' y y' t1 ha ha0 hda hba hb hx hx' hy hy' e1 r1 r2 r3 r4 r5 r6 h
    have hz := dl_zero hb
    subst hz
    unfold q_X5_common_39
    refine m_deg (a := 30) hq (by omega) r2 (fun _ => ⟨fun _ => ?_, fun c => absurd (by decide) c⟩) (fun n _ _ z => absurd rfl z)
    unfold pfl at h
    rw [pge_z, pgx_z, pgx_z] at h
    exact cm_end hq hp h1 h2 h3 d1 d2 d3 ha ha0 e1 r1 r3 r5 h
  | succ d ih =>
    intro da a b x x' y y' t1 ha ha0 hda hba hb hx hx' hy hy' e1 r1 r2 r3 r4 r5 r6 h
    unfold q_X5_common_39
    refine m_deg (a := 30) hq (by omega) r2 (fun z => ?_) (fun n n1 n2 n3 => ?_)
    · subst z
      refine ⟨fun _ => ?_, fun c => absurd (by decide) c⟩
      unfold pfl at h
      rw [pge_z, pgx_z, pgx_z] at h
      exact cm_end hq hp h1 h2 h3 d1 d2 d3 ha ha0 e1 r1 r3 r5 h
    · refine ⟨fun c => absurd c (nI_pos (by omega)), fun _ => ?_⟩
      have hb0 : b ≠ pz := fun z => n3 (by rw [z]; rfl)
      have hnd : n < da := by
        rcases Nat.lt_or_ge n da with w | w
        · exact w
        · exact absurd (hba n w) n3
      have hnd2 : n < d + 1 := by
        rcases Nat.lt_or_ge n (d + 1) with w | w
        · exact w
        · exact absurd (hb n w) n3
      obtain ⟨-, hQ, hr, -⟩ := pqr_is hq ha n2 n3
      have q1 : dl (pl_mul (pquo a b) x') (K - n + 1) := dl_mono (dl_mul hQ hx') (by omega)
      have q2 : dl (pl_mul (pquo a b) y') (K - n + 1) := dl_mono (dl_mul hQ hy') (by omega)
      unfold pfl at h
      rw [pge_s hb0, pgx_s hb0, pgx_s hb0] at h
      exact cm_step hq hp h1 h2 h3 d1 d2 d3 hb0 hQ hx' hy' (by omega) (by omega) e1 r1 r2 r3 r4 r5 r6 (fun t2 s1 s2 s3 s4 s5 s6 s7 => ih n b (prem a b) x' _ y' _ t2 n2 n3 (by omega) hr (dl_mono hr (by omega)) (dl_mono hx' (by omega)) (dl_sub (dl_mono hx (by omega)) q1) (dl_mono hy' (by omega)) (dl_sub (dl_mono hy (by omega)) q2) s1 s2 s3 s4 s5 s6 s7 h)
/-- the second factor -/
noncomputable def pcoy {q : Nat} (a b : PS q) : PS q := pscl (pgx 19 a b pz (pl_c 1)) (pfl 19 a b)
theorem pn_1 {q : Nat} (hq : isP q) : pn q 1 = pl_c 1 := by
  have hl := isP_lo hq
  funext i
  apply Fin.ext
  rw [pn_val]
  unfold pl_c
  split
  · rename_i h; subst h
    rw [Nat.pow_zero, Nat.div_one]; rfl
  · rename_i h
    have : 1 < (q + 1) ^ i := Nat.one_lt_pow h (by omega)
    rw [Nat.div_eq_of_lt this]; rfl
theorem m_com {q : Nat} (hq : isP q) {t : fcS} (hp : mp t q) {v1 v2 v3 ra rb K : Nat} (h1 : v1 < 30) (h2 : v2 < 30) (h3 : v3 < 30) (h4 : ra < 30) (h5 : rb < 30) (d1 : v1 ≠ v2) (d2 : v1 ≠ v3) (d3 : v2 ≠ v3) (d4 : ra ≠ v1) (d5 : rb ≠ v1) (hK : K ≤ 14) {a b : PS q} (ha : rwI t ra a) (hb : rwI t rb b) (haK : dl a (K + 1)) (hbK : dl b (K + 1)) (hz : a ≠ pz ∨ b ≠ pz) {post : fcS → Prop} (h : ∀ t2, eqL t t2 (cmL v1 v2 v3) → rwI t2 v1 (pgcd a b) → rwI t2 v2 (pcof a b) → rwI t2 v3 (pcoy a b) → post t2) : q_X5_common t (nI v1) (nI v2) (nI v3) (nI ra) (nI rb) post := by
  have hl := isP_lo hq
  have h116 : (1 : Nat) < (q + 1) ^ 16 := Nat.one_lt_pow (by omega) (by omega)
  unfold q_X5_common
  refine m_copy (by omega) (by omega) (fun z => d4 z.symm) ha (fun t1 f1 r1 => ?_)
  refine m_copy (a := 30) (b := rb) (by omega) (by omega) (by omega) (eqL_row f1 (by simp; exact d5) hb) (fun t2 f2 r2 => ?_)
  have g2 := eqL_tr f1 f2
  refine m_load (a := v2) (x := 1) hq (eqL_mp g2 hp) (by omega) (by omega) h116 (fun t3 f3 r3 => ?_)
  have g3 := eqL_tr g2 f3
  refine m_clear (q := q) (a := 31) (by omega) (fun t4 f4 r4 => ?_)
  have g4 := eqL_tr g3 f4
  refine m_clear (q := q) (a := v3) (by omega) (fun t5 f5 r5 => ?_)
  have g5 := eqL_tr g4 f5
  refine m_load (a := 32) (x := 1) hq (eqL_mp g5 hp) (by omega) (by omega) h116 (fun t6 f6 r6 => ?_)
  have g6 := eqL_tr g5 f6
  rw [pn_1 hq] at r3 r6
  have e1 : eqL t t6 (cmL v1 v2 v3) := eqL_mono g6 (fun z hz => by simp at hz ⊢; omega)
  have k1 : rwI t6 v1 a := eqL_row f6 (by simp; omega) (eqL_row f5 (by simp; omega) (eqL_row f4 (by simp; omega) (eqL_row f3 (by simp; omega) (eqL_row f2 (by simp; omega) r1))))
  have k2 : rwI t6 30 b := eqL_row f6 (by simp) (eqL_row f5 (by simp; omega) (eqL_row f4 (by simp) (eqL_row f3 (by simp; omega) r2)))
  have k3 : rwI t6 v2 (pl_c (1 : Fin (q + 1))) := eqL_row f6 (by simp; omega) (eqL_row f5 (by simp; omega) (eqL_row f4 (by simp; omega) r3))
  have k4 : rwI t6 31 (pz : PS q) := eqL_row f6 (by simp) (eqL_row f5 (by simp; omega) r4)
  have k5 : rwI t6 v3 (pz : PS q) := eqL_row f6 (by simp; omega) r5
  have h' : ∀ t2, eqL t t2 (cmL v1 v2 v3) → rwI t2 v1 (pscl (pge 19 a b) (pfl 19 a b)) → rwI t2 v2 (pscl (pgx 19 a b (pl_c 1) pz) (pfl 19 a b)) → rwI t2 v3 (pscl (pgx 19 a b pz (pl_c 1)) (pfl 19 a b)) → post t2 := h
  refine ⟨20, ?_⟩
  show q_X5_common_39 post (19 + 1) (nI v1) (nI v2) (nI v3) t6
  unfold q_X5_common_39
  refine m_deg (a := 30) hq (by omega) k2 (fun z => ?_) (fun n n1 n2 n3 => ?_)
  · subst z
    refine ⟨fun _ => ?_, fun c => absurd (by decide) c⟩
    unfold pfl at h'
    rw [pge_z, pgx_z, pgx_z] at h'
    obtain ⟨da, hda, hx⟩ := hd_ex haK
    have ha0 : a da ≠ 0 := by
      rcases hx with w | w
      · exact w
      · rcases hz with u | u
        · exact absurd w u
        · exact absurd rfl u
    exact cm_end hq hp h1 h2 h3 d1 d2 d3 hda.1 ha0 e1 k1 k3 k5 h'
  · refine ⟨fun c => absurd c (nI_pos (by omega)), fun _ => ?_⟩
    have hb0 : b ≠ pz := fun z => n3 (by rw [z]; rfl)
    have hnK : n ≤ K := by
      rcases Nat.lt_or_ge n (K + 1) with w | w
      · omega
      · exact absurd (hbK n w) n3
    obtain ⟨-, hQ, hr, -⟩ := pqr_is hq haK n2 n3
    unfold pfl at h'
    rw [pge_s hb0, pgx_s hb0, pgx_s hb0] at h'
    have q2 : dl (pl_mul (pquo a b) (pl_c 1)) (K - n + 1) := dl_mono (dl_mul hQ (pc_dl 1)) (by omega)
    refine cm_step (nx := 0) (ny := 1) hq hp h1 h2 h3 d1 d2 d3 hb0 hQ (fun _ _ => rfl) (pc_dl 1) (by omega) (by omega) e1 k1 k2 k3 k4 k5 r6 (fun t2 s1 s2 s3 s4 s5 s6 s7 => ?_)
    refine l_com hq hp h1 h2 h3 d1 d2 d3 hK 18 n b (prem a b) pz _ (pl_c 1) _ t2 n2 n3 hnK hr (dl_mono hr (by omega)) (fun _ _ => rfl) ?_ (dl_mono (pc_dl 1) (by omega)) ?_ s1 s2 s3 s4 s5 s6 s7 h'
    · have hz0 : pl_mul (pquo a b) (fun _ => (0 : Fin (q + 1))) = pz := pm_zr _
      rw [hz0]; exact dl_sub (dl_mono (pc_dl 1) (by omega)) (fun _ _ => rfl)
    · exact dl_sub (fun _ _ => rfl) q2
/-! the reference's knot -/
theorem l_mder {q : Nat} (hq : isP q) {t : fcS} (hp : mp t q) {f : PS q} (hf : rwI t 10 f) {post : Int32 → fcS → Prop} (h : ∀ t2, eqL t t2 [11] → rwI t2 11 (pder f) → q_X5_common t2 12 13 14 10 11 (fun (t3 : fcS) => q_X5_degree t3 12 (fun (r5 : Int32) (t4 : fcS) => post r5 t4))) : ∀ k i (t1 : fcS), 1 ≤ i → i + k = 16 → eqL t t1 [11] → rwI t1 11 (fun n => if n + 1 < i then pder f n else 0) → q_X5_knotOf_15 post (k + 1) (nI i) t1
  | 0, i, t1, hi, e, h1, h2 => by
    unfold q_X5_knotOf_15
    have e : i = 16 := by omega
    subst e
    refine ⟨fun _ => h t1 h1 ?_, fun c => absurd (by decide) c⟩
    have : (fun n => if n + 1 < 16 then pder f n else 0) = pder f := by
      funext n
      split
      · rfl
      · rw [der_dl hf.1 n (by omega)]
    rw [this] at h2
    exact h2
  | k + 1, i, t1, hi, e, h1, h2 => by
    have hl := isP_lo hq
    unfold q_X5_knotOf_15
    refine ⟨fun c => absurd c (c16 (by omega)), fun _ => ?_⟩
    have ey : (160 : Int32) + nI i = nI (16 * 10 + i) := by rw [show (160 : Int32) = nI 160 from rfl, nI_add]
    have ex : (176 : Int32) + nI i - 1 = nI (16 * 11 + (i - 1)) := by
      rw [show (176 : Int32) = nI 176 from rfl, nI_add, show 176 + i = (16 * 11 + (i - 1)) + 1 by omega, nI_pred]
    obtain ⟨-, x2, x3⟩ := ix (a := 11) (i := i - 1) (by omega) (by omega)
    obtain ⟨-, y2, y3⟩ := ix (a := 10) (i := i) (by omega) (by omega)
    rw [ey, ex, y3, x3]
    have hv : fga t1 60 (16 * 10 + i) = nI (f i).val := (eqL_row h1 (by decide) hf).2 i (by omega)
    rw [hv]
    have l1 := (f i).isLt
    have l2 : i * (f i).val ≤ 16 * 12 := Nat.mul_le_mul (by omega) (by omega)
    have ez : (nI i * nI (f i).val).toInt = ((i * (f i).val : Nat) : Int) := by rw [pk_mul, nI_toInt (by omega)]
    have hval : ((i * (f i).val : Nat) : Int) % ((q + 1 : Nat) : Int) = ((pder f (i - 1)).val : Int) := by
      rw [← Int.natCast_emod]
      congr 1
      show i * (f i).val % (q + 1) = (f (i - 1 + 1) * Fin.ofNat (q + 1) (i - 1 + 1)).val
      rw [Fin.val_mul]
      show _ = (f (i - 1 + 1)).val * ((i - 1 + 1) % (q + 1)) % (q + 1)
      rw [Nat.mul_mod_mod, show i - 1 + 1 = i by omega, Nat.mul_comm]
    refine ⟨y2, m_left (c := pder f (i - 1)) hq (eqL_mp h1 hp) (by rw [ez]; omega) (by rw [ez]; omega) (by rw [ez]; exact hval) ⟨x2, fun t2 e2 x e3 => ?_⟩⟩
    rw [e3, nI_1]
    have hnew : (fun n => if n + 1 < i + 1 then pder f n else 0) (i - 1) = pder f (i - 1) := by
      show (if i - 1 + 1 < i + 1 then pder f (i - 1) else 0) = _
      rw [if_pos (by omega)]
    refine l_mder hq hp hf h k (i + 1) t2 (by omega) (by omega) (by rw [e2]; exact eqL_fsa h1 (by simp) (by omega) _) ?_
    rw [e2, ← hnew]
    refine rwI_set h2 (by omega) (fun n hn => ?_) (fun n hn => ?_)
    · show (if n + 1 < i + 1 then pder f n else 0) = 0
      rw [if_neg (by omega)]
    · show (if n + 1 < i + 1 then pder f n else 0) = if n + 1 < i then pder f n else 0
      by_cases w : n + 1 < i
      · rw [if_pos w, if_pos (by omega)]
      · rw [if_neg w, if_neg (by omega)]
/-- knotOf: the common divisor lies in row 12; its degree is the answer -/
theorem m_knot {q x : Nat} (hq : isP q) {t : fcS} (hp : mp t q) (hx : x < 2 ^ 31) (hx7 : x < (q + 1) ^ 7) (hx0 : 0 < x) {post : Int32 → fcS → Prop} (h : ∀ t2 n, eqL t t2 [10, 11, 12, 13, 14, 30, 31, 32, 33, 34, 35, 36] → rwI t2 12 (pgcd (pn q x) (pder (pn q x))) → hd (pgcd (pn q x) (pder (pn q x))) n → post (nI n) t2) (hne : pgcd (pn q x) (pder (pn q x)) ≠ pz) : q_X5_knotOf t (nI x) post := by
  have hl := isP_lo hq
  have hpow : (q + 1) ^ 7 ≤ (q + 1) ^ 16 := Nat.pow_le_pow_right (by omega) (by omega)
  unfold q_X5_knotOf
  refine m_load (a := 10) hq hp (by omega) hx (by omega) (fun t1 f1 r1 => ?_)
  refine m_clear (q := q) (a := 11) (by omega) (fun t2 f2 r2 => ?_)
  have g2 := eqL_tr f1 f2
  refine ⟨16, ?_⟩
  have hd7 : dl (pn q x) 7 := pn_dl hx7
  have hxz : pn q x ≠ pz := fun z => by
    have := nu_pn hx7
    rw [z, nu_zero (f := pz) (fun _ _ => rfl)] at this
    omega
  refine l_mder hq (eqL_mp g2 hp) (eqL_row f2 (by decide) r1) (fun t3 f3 r3 => ?_) 15 1 t2 (by omega) (by omega) (eqL_rf t2 _) ?_
  · have g3 := eqL_tr g2 f3
    refine m_com (v1 := 12) (v2 := 13) (v3 := 14) (ra := 10) (rb := 11) (K := 6) hq (eqL_mp g3 hp) (by omega) (by omega) (by omega) (by omega) (by omega) (by omega) (by omega) (by omega) (by omega) (by omega) (by omega) (eqL_row f3 (by decide) (eqL_row f2 (by decide) r1)) r3 hd7 (dl_mono (der_dl hd7) (by omega)) (Or.inl hxz) (fun t4 f4 r4 r5 r6 => ?_)
    have g4 := eqL_tr g3 f4
    refine m_deg (a := 12) hq (by omega) r4 (fun z => absurd z hne) (fun n n1 n2 n3 => ?_)
    exact h t4 n (eqL_mono g4 (fun z hz => by simp at hz ⊢; omega)) r4 ⟨n2, Or.inr n3⟩
  · have : (fun n => if n + 1 < 1 then pder (pn q x) n else (0 : Fin (q + 1))) = pz := by
      funext n
      rw [if_neg (by omega)]; rfl
    rw [this]; exact r2
