theorem Ni_eq0 {q m : Nat} (hq : isP q) (hm : (q + 1) ^ m < 2 ^ 30) {f : PS q} (hf : dl f m) : Ni q f = 0 ↔ f = pz := by
  constructor
  · intro h
    rw [Ni_dl (isP_lo hq).1 hm hf] at h
    have h1 := nu_lt m f
    have h2 : nu q m f = 0 := by
      rcases Nat.eq_zero_or_pos (nu q m f) with z | z
      · exact z
      · exact absurd h (nI_ne0 z (by omega))
    funext i
    rcases Nat.lt_or_ge i m with w | w
    · exact nu_zero_inv h2 i w
    · exact hf i w
  · intro h; rw [h]; exact Ni_zero
theorem nI_fiv {q : Nat} (hq : isP q) {c : Fin (q + 1)} (hc : c ≠ 0) : ¬ nI (fiv q c).val = 0 := by
  have hl := isP_lo hq
  have h1 := ((fiv_ok hq c).2 hc).1
  have h2 := (fiv q c).isLt
  refine nI_ne0 ?_ (by omega)
  rcases Nat.eq_zero_or_pos (fiv q c).val with z | z
  · rw [z, Nat.mul_zero, Nat.zero_mod] at h1; omega
  · exact z
theorem mul_rem {q : Nat} (hq : isP q) (a b : Fin (q + 1)) : irm (nI a.val * nI b.val) (nI (q + 1)) = nI (a * b).val := by
  have hl := isP_lo hq
  have h1 := a.isLt
  have h2 := b.isLt
  have h3 : a.val * b.val ≤ 12 * 12 := Nat.mul_le_mul (by omega) (by omega)
  rw [pk_mul, rem_nI (by omega) (by omega) (by omega), Fin.val_mul]
theorem l_rest {t : fcS} {q n m : Nat} (hq : isP q) (hp : rp t q) (hm : (q + 1) ^ m < 2 ^ 30) {b : PS q} (hb : dl b (n + 1)) (hb0 : b n ≠ 0) (hbm : n + 1 ≤ m) {post : Int32 → fcS → Prop} : ∀ (k : Nat) (a : PS q), dl a m → (k = 0 ∨ n + k ≤ m) → dl a (n + k) → post (Ni q (prem a b)) t → q_X3_rest_29 post (k + 1) (Ni q b) (nI n) (nI (fiv q (b n)).val) (Ni q a) (nI k + (-1)) t := by
  have hl := isP_lo hq
  have h18 := pow18 hl.1 hm
  intro k
  induction k with
  | zero =>
    intro a ha _ hk h
    unfold q_X3_rest_29
    rw [(prem_small hq hb hb0 hk).2] at h
    exact ⟨fun _ => h, fun c => absurd (by decide) c⟩
  | succ k ih =>
    intro a ha hk0 hk h
    unfold q_X3_rest_29
    rw [pk_m1]
    refine ⟨fun c => absurd c (nI_pos (by omega)), fun _ => ⟨fun c => absurd c (nI_fiv hq hb0), fun _ => ?_⟩⟩
    rw [nI_add]
    refine s_coefS hq hp hm ha (by omega) ⟨rp_ne hp hq, fun x12 e12 => ?_⟩
    rw [show fgi t 1 0 = nI (q + 1) from hp, mul_rem hq] at e12
    rw [e12]
    have hpw : (q + 1) ^ (n + 1 + k) < 2 ^ 30 := Nat.lt_of_le_of_lt (Nat.pow_le_pow_right (by omega) (by omega)) hm
    have hp1 : (q + 1) ^ (n + 1) < 2 ^ 30 := Nat.lt_of_le_of_lt (Nat.pow_le_pow_right (by omega) (by omega)) hm
    refine s_scl hq hp hp1 hb _ ?_
    refine s_place hp (Nat.lt_of_le_of_lt (Nat.pow_le_pow_right (by omega) (by omega)) hm) (by omega) ?_
    rw [Ni_sh hq hpw (dl_scl hb _)]
    have hs : dl (psh k (pscl b (a (n + k) * fiv q (b n)))) m := dl_mono (dl_sh k (dl_scl hb _)) (by omega)
    refine s_dif hq hp hm ha hs ?_
    intro x19 e19
    rw [e19]
    refine ih _ (dl_sub ha hs) (by omega) ?_ ?_
    · have e1 := fiv_mul hq hb0
      intro i hi
      show a i - psh k (pscl b (a (n + k) * fiv q (b n))) i = 0
      unfold psh pscl
      rw [if_neg (by omega)]
      rcases Nat.lt_or_ge (n + k) i with w | w
      · rw [hk i (by omega), hb (i - k) (by omega)]; grind
      · have : i = n + k := by omega
        subst this
        rw [show n + k - k = n by omega]; grind
    · rw [(prem_sub hq ha hb hb0 _ k).1]; exact h
theorem s_rest {t : fcS} {q m : Nat} (hq : isP q) (hp : rp t q) (hm : (q + 1) ^ m < 2 ^ 30) {a b : PS q} (ha : dl a m) (hb : dl b m) {post : Int32 → fcS → Prop} (h : post (Ni q (prem a b)) t) : q_X3_rest t (Ni q a) (Ni q b) post := by
  have hl := isP_lo hq
  have h18 := pow18 hl.1 hm
  obtain ⟨n, hn, hz⟩ := hd_ex hb
  obtain ⟨da, hda, -⟩ := hd_ex ha
  have hdm := hd_lt hda ha
  unfold q_X3_rest
  refine s_degS hq hp hm hb hn ?_
  refine s_leadS hq hp hm hb hn ?_
  refine s_inv hq hp (b n) ?_
  refine s_degS hq hp hm ha hda ?_
  intro x9 e9
  rw [e9]
  rcases hz with hz | hz
  · have hnm : n + 1 ≤ m := by
      rcases Nat.lt_or_ge n m with w | w
      · exact w
      · exact absurd (hb n w) hz
    rcases Nat.lt_or_ge da n with w | w
    · refine ⟨1, ?_⟩
      unfold q_X3_rest_29
      rw [(prem_small hq hn.1 hz (dl_mono hda.1 (by omega))).2] at h
      exact ⟨fun _ => h, fun c => absurd (pk_sneg (by omega) w) c⟩
    · refine ⟨da - n + 1 + 1, ?_⟩
      rw [pk_sub w]
      have := l_rest hq hp hm hn.1 hz hnm (da - n + 1) a ha (by omega) (dl_mono hda.1 (by omega)) h
      rw [pk_m1] at this
      exact this
  · have hn0 : n = 0 := by
      rcases hn.2 with z | z
      · exact z
      · rw [hz] at z; exact absurd rfl z
    subst hn0
    have hb2 : b = pz := hz
    subst hb2
    rw [(pqr_z a).2] at h
    refine ⟨1, ?_⟩
    unfold q_X3_rest_29
    refine ⟨fun _ => h, fun _ => ⟨fun _ => h, fun c => absurd ?_ c⟩⟩
    rw [show pz 0 = (0 : Fin (q + 1)) from rfl, (fiv_ok hq 0).1 rfl]; rfl
theorem nu_mo {q k M : Nat} (hk : k < M) {Q : PS q} (hQ : Q k = 0) (c : Fin (q + 1)) : nu q M (padd Q (pmo c k)) = nu q M Q + c.val * (q + 1) ^ k := by
  obtain ⟨r, hr⟩ : ∃ r, M = k + (r + 1) := ⟨M - k - 1, by omega⟩
  subst hr
  rw [nu_split k (r + 1) (padd Q (pmo c k)), nu_split k (r + 1) Q]
  have e1 : nu q k (padd Q (pmo c k)) = nu q k Q := nu_cong (fun j hj => by
    show Q j + pmo c k j = Q j
    unfold pmo; rw [if_neg (by omega)]; grind)
  have e2 : nu q r (fun i => (padd Q (pmo c k)) (k + (i + 1))) = nu q r (fun i => Q (k + (i + 1))) := nu_cong (fun j hj => by
    show Q (k + (j + 1)) + pmo c k (k + (j + 1)) = Q (k + (j + 1))
    unfold pmo; rw [if_neg (by omega)]; grind)
  have e3 : padd Q (pmo c k) (k + 0) = c := by
    show Q k + pmo c k k = c
    unfold pmo; rw [if_pos rfl, hQ]; grind
  have e4 : Q (k + 0) = 0 := hQ
  show nu q k (padd Q (pmo c k)) + (q + 1) ^ k * ((padd Q (pmo c k) (k + 0)).val + (q + 1) * nu q r (fun i => (padd Q (pmo c k)) (k + (i + 1)))) = nu q k Q + (q + 1) ^ k * ((Q (k + 0)).val + (q + 1) * nu q r (fun i => Q (k + (i + 1)))) + c.val * (q + 1) ^ k
  rw [e1, e2, e3, e4, Nat.mul_add, Nat.mul_add]
  show nu q k Q + ((q + 1) ^ k * c.val + _) = nu q k Q + ((q + 1) ^ k * 0 + _) + c.val * (q + 1) ^ k
  rw [Nat.mul_zero, Nat.mul_comm ((q + 1) ^ k) c.val]
  omega
theorem l_quo {t : fcS} {q n m : Nat} (hq : isP q) (hp : rp t q) (hm : (q + 1) ^ m < 2 ^ 30) {b : PS q} (hb : dl b (n + 1)) (hb0 : b n ≠ 0) (hbm : n + 1 ≤ m) {post : Int32 → fcS → Prop} : ∀ (k : Nat) (a Q : PS q), dl a m → (k = 0 ∨ n + k ≤ m) → dl a (n + k) → (∀ i, i < k → Q i = 0) → dl Q m → post (Ni q (padd Q (pquo a b))) t → q_X3_quotient_32 post (k + 1) (Ni q b) (nI n) (nI (fiv q (b n)).val) (Ni q a) (Ni q Q) (nI k + (-1)) t := by
  have hl := isP_lo hq
  have h18 := pow18 hl.1 hm
  intro k
  induction k with
  | zero =>
    intro a Q ha _ hk hQ hQm h
    unfold q_X3_quotient_32
    rw [(prem_small hq hb hb0 hk).1, padd_z] at h
    exact ⟨fun _ => h, fun c => absurd (by decide) c⟩
  | succ k ih =>
    intro a Q ha hk0 hk hQ hQm h
    unfold q_X3_quotient_32
    rw [pk_m1]
    refine ⟨fun c => absurd c (nI_pos (by omega)), fun _ => ⟨fun c => absurd c (nI_fiv hq hb0), fun _ => ?_⟩⟩
    rw [nI_add]
    refine s_coefS hq hp hm ha (by omega) ⟨rp_ne hp hq, fun x12 e12 => ?_⟩
    rw [show fgi t 1 0 = nI (q + 1) from hp, mul_rem hq] at e12
    rw [e12]
    have hpw : (q + 1) ^ (n + 1 + k) < 2 ^ 30 := Nat.lt_of_le_of_lt (Nat.pow_le_pow_right (by omega) (by omega)) hm
    have hp1 : (q + 1) ^ (n + 1) < 2 ^ 30 := Nat.lt_of_le_of_lt (Nat.pow_le_pow_right (by omega) (by omega)) hm
    refine s_place hp (Nat.lt_of_le_of_lt (Nat.pow_le_pow_right (by omega) (by omega)) hm) (by omega) ?_
    intro x15 e15
    have e15 : x15 = Ni q (padd Q (pmo (a (n + k) * fiv q (b n)) k)) := by
      rw [e15, Ni_dl hl.1 hm hQm, Ni_dl hl.1 hm (dl_add hQm (dl_mono (pmo_dl _ k) (by omega))), nu_mo (by omega) (hQ k (by omega)), pk_mul, nI_add]
    rw [e15]
    refine s_scl hq hp hp1 hb _ ?_
    refine s_place hp (Nat.lt_of_le_of_lt (Nat.pow_le_pow_right (by omega) (by omega)) hm) (by omega) ?_
    rw [Ni_sh hq hpw (dl_scl hb _)]
    have hs : dl (psh k (pscl b (a (n + k) * fiv q (b n)))) m := dl_mono (dl_sh k (dl_scl hb _)) (by omega)
    refine s_dif hq hp hm ha hs ?_
    intro x19 e19
    rw [e19]
    refine ih _ _ (dl_sub ha hs) (by omega) ?_ ?_ (dl_add hQm (dl_mono (pmo_dl _ k) (by omega))) ?_
    · have e1 := fiv_mul hq hb0
      intro i hi
      show a i - psh k (pscl b (a (n + k) * fiv q (b n))) i = 0
      unfold psh pscl
      rw [if_neg (by omega)]
      rcases Nat.lt_or_ge (n + k) i with w | w
      · rw [hk i (by omega), hb (i - k) (by omega)]; grind
      · have : i = n + k := by omega
        subst this
        rw [show n + k - k = n by omega]; grind
    · intro i hi
      show Q i + pmo _ k i = 0
      unfold pmo
      rw [if_neg (by omega), hQ i (by omega)]; grind
    · have e := (prem_sub hq ha hb hb0 (a (n + k) * fiv q (b n)) k).2
      have e2 : padd (padd Q (pmo (a (n + k) * fiv q (b n)) k)) (pquo (psub a (psh k (pscl b (a (n + k) * fiv q (b n))))) b) = padd Q (pquo a b) := by
        rw [← e]
        funext i
        show Q i + pmo _ k i + pquo _ b i = Q i + (pquo _ b i + pmo _ k i)
        grind
      rw [e2]; exact h
theorem s_quo {t : fcS} {q m : Nat} (hq : isP q) (hp : rp t q) (hm : (q + 1) ^ m < 2 ^ 30) {a b : PS q} (ha : dl a m) (hb : dl b m) {post : Int32 → fcS → Prop} (h : post (Ni q (pquo a b)) t) : q_X3_quotient t (Ni q a) (Ni q b) post := by
  have hl := isP_lo hq
  have h18 := pow18 hl.1 hm
  obtain ⟨n, hn, hz⟩ := hd_ex hb
  obtain ⟨da, hda, -⟩ := hd_ex ha
  have hdm := hd_lt hda ha
  unfold q_X3_quotient
  refine s_degS hq hp hm hb hn ?_
  refine s_leadS hq hp hm hb hn ?_
  refine s_inv hq hp (b n) ?_
  refine s_degS hq hp hm ha hda ?_
  intro x9 e9
  rw [e9]
  have e0 : (0 : Int32) = Ni q pz := Ni_zero.symm
  rcases hz with hz | hz
  · have hnm : n + 1 ≤ m := by
      rcases Nat.lt_or_ge n m with w | w
      · exact w
      · exact absurd (hb n w) hz
    rcases Nat.lt_or_ge da n with w | w
    · refine ⟨1, ?_⟩
      unfold q_X3_quotient_32
      rw [(prem_small hq hn.1 hz (dl_mono hda.1 (by omega))).1, ← e0] at h
      exact ⟨fun _ => h, fun c => absurd (pk_sneg (by omega) w) c⟩
    · refine ⟨da - n + 1 + 1, ?_⟩
      rw [pk_sub w, e0]
      have := l_quo hq hp hm hn.1 hz hnm (da - n + 1) a pz ha (by omega) (dl_mono hda.1 (by omega)) (fun _ _ => rfl) (fun _ _ => rfl) (by rw [padd_zl]; exact h)
      rw [pk_m1] at this
      exact this
  · have hn0 : n = 0 := by
      rcases hn.2 with z | z
      · exact z
      · rw [hz] at z; exact absurd rfl z
    subst hn0
    have hb2 : b = pz := hz
    subst hb2
    rw [(pqr_z a).1, ← e0] at h
    refine ⟨1, ?_⟩
    unfold q_X3_quotient_32
    refine ⟨fun _ => h, fun _ => ⟨fun _ => h, fun c => absurd ?_ c⟩⟩
    rw [show pz 0 = (0 : Fin (q + 1)) from rfl, (fiv_ok hq 0).1 rfl]; rfl
