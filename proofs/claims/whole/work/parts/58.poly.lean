/-! derivative, knot, moved, the rest of a square, products -/
def pder {q : Nat} (f : PS q) : PS q := fun n => f (n + 1) * Fin.ofNat (q + 1) (n + 1)
theorem der_dl {q m : Nat} {f : PS q} (hf : dl f m) : dl (pder f) (m - 1) := fun i hi => by
  show f (i + 1) * _ = 0
  rw [hf (i + 1) (by omega)]; grind
/-- the part of the derivative from k on -/
def pdk {q : Nat} (f : PS q) (k : Nat) : PS q := fun n => if n < k then 0 else pder f n
theorem pdk_dl {q m : Nat} {f : PS q} (hf : dl f m) (k : Nat) : dl (pdk f k) m := fun i hi => by
  show (if i < k then 0 else pder f i) = 0
  split
  · rfl
  · exact der_dl hf i (by omega)
theorem l_der {t : fcS} {q m : Nat} (hq : isP q) (hp : rp t q) (hm : (q + 1) ^ m < 2 ^ 30) {f : PS q} (hf : dl f m) {post : Int32 → fcS → Prop} (h : post (Ni q (pder f)) t) : ∀ k, k ≤ m → q_X3_derivative_8 post (k + 1) (Ni q f) (Ni q (pdk f k)) (nI k) t := by
  have hl := isP_lo hq
  have h18 := pow18 hl.1 hm
  intro k
  induction k with
  | zero =>
    intro _
    unfold q_X3_derivative_8
    have e : pdk f 0 = pder f := by funext n; show (if n < 0 then 0 else pder f n) = pder f n; rw [if_neg (by omega)]
    rw [e]
    exact ⟨fun _ => h, fun c => absurd (by decide) c⟩
  | succ k ih =>
    intro hk
    unfold q_X3_derivative_8
    refine ⟨fun c => absurd c (nI_nle (by omega) (by omega)), fun _ => ?_⟩
    refine s_coefS hq hp hm hf (by omega) ⟨rp_ne hp hq, ?_⟩
    rw [nI_pred]
    refine s_place hp (Nat.lt_of_le_of_lt (Nat.pow_le_pow_right (by omega) (by omega)) hm) (by omega) ?_
    intro x7 e7 x8 e8
    have lf := (f (k + 1)).isLt
    have lm : (f (k + 1)).val * (k + 1) ≤ 12 * 18 := Nat.mul_le_mul (by omega) (by omega)
    rw [show fgi t 1 0 = nI (q + 1) from hp, pk_mul, rem_nI (by omega) (by omega) (by omega), pk_mul] at e7
    have hz : pdk f (k + 1) k = 0 := by show (if k < k + 1 then 0 else pder f k) = 0; rw [if_pos (by omega)]
    have e9 : pdk f k = padd (pdk f (k + 1)) (pmo (pder f k) k) := by
      funext n
      show (if n < k then 0 else pder f n) = (if n < k + 1 then 0 else pder f n) + (if n = k then pder f k else 0)
      rcases Nat.lt_trichotomy n k with w | w | w
      · rw [if_pos w, if_pos (by omega), if_neg (by omega)]; grind
      · subst w; rw [if_neg (by omega), if_pos (by omega), if_pos rfl]; grind
      · rw [if_neg (by omega), if_neg (by omega), if_neg (by omega)]; grind
    have e7 : x7 = Ni q (pdk f k) := by
      rw [e7, e9, Ni_dl hl.1 hm (pdk_dl hf (k + 1)), Ni_dl hl.1 hm (dl_add (pdk_dl hf (k + 1)) (dl_mono (pmo_dl _ k) (by omega))), nu_mo (by omega) hz, nI_add]
      congr 3
      show (f (k + 1)).val * (k + 1) % (q + 1) = (f (k + 1) * Fin.ofNat (q + 1) (k + 1)).val
      rw [Fin.val_mul]
      show _ = (f (k + 1)).val * ((k + 1) % (q + 1)) % (q + 1)
      rw [Nat.mul_mod_mod]
    have e8 : x8 = nI k := by rw [e8, pk_m1]
    rw [e7, e8]
    exact ih (by omega)
theorem s_der {t : fcS} {q m : Nat} (hq : isP q) (hp : rp t q) (hm : (q + 1) ^ m < 2 ^ 30) {f : PS q} (hf : dl f m) {post : Int32 → fcS → Prop} (h : post (Ni q (pder f)) t) : q_X3_derivative t (Ni q f) post := by
  obtain ⟨n, hn, -⟩ := hd_ex hf
  have hnm := hd_lt hn hf
  unfold q_X3_derivative
  refine s_degS hq hp hm hf hn ⟨n + 1, ?_⟩
  have := l_der hq hp hm hf h n (by omega)
  have e : pdk f n = pz := by
    funext i
    show (if i < n then 0 else pder f i) = 0
    split
    · rfl
    · show f (i + 1) * _ = 0
      rw [hn.1 (i + 1) (by omega)]; grind
  rw [e, show Ni q pz = 0 from Ni_zero] at this
  exact this
theorem s_knot {t : fcS} {q m : Nat} (hq : isP q) (hp : rp t q) (hm : (q + 1) ^ m < 2 ^ 30) {f : PS q} (hf : dl f m) {post : Int32 → fcS → Prop} (h : post (Ni q (pgcd f (pder f))) t) : q_X3_knotOf t (Ni q f) post := by
  unfold q_X3_knotOf
  refine s_der hq hp hm hf ?_
  exact s_gcd hq hp hm hf (dl_mono (der_dl hf) (by omega)) h
/-- x + c -/
def plin {q : Nat} (c : Fin (q + 1)) : PS q := fun n => if n = 0 then c else if n = 1 then 1 else 0
theorem plin_dl {q : Nat} (c : Fin (q + 1)) : dl (plin c) 2 := fun i hi => by unfold plin; rw [if_neg (by omega), if_neg (by omega)]
theorem Ni_lin {q : Nat} (hq : isP q) (c : Fin (q + 1)) : Ni q (plin c) = nI (q + 1) + nI c.val := by
  have hl := isP_lo hq
  have h2 : (q + 1) ^ 2 < 2 ^ 30 := Nat.lt_of_le_of_lt (Nat.pow_le_pow_left (show q + 1 ≤ 13 by omega) 2) (by decide)
  rw [Ni_dl hl.1 h2 (plin_dl c), nI_add]
  show nI (c.val + (q + 1) * ((1 : Fin (q + 1)).val + (q + 1) * 0)) = _
  have e : (1 : Fin (q + 1)).val = 1 := by show 1 % (q + 1) = 1; rw [Nat.mod_eq_of_lt (by omega)]
  rw [e]
  congr 1; omega
/-- f's coefficients from k up, by Horner's way: f at x + c -/
def pmv {q : Nat} (f : PS q) (c : Fin (q + 1)) : Nat → Nat → PS q
  | 0, _ => pz
  | d + 1, n => padd (pl_mul (pmv f c d n) (plin c)) (pl_c (f (n - d)))
theorem pmv_dl {q : Nat} (f : PS q) (c : Fin (q + 1)) (n : Nat) : ∀ d, dl (pmv f c d n) d
  | 0 => fun _ _ => rfl
  | d + 1 => dl_add (dl_mono (dl_mul (pmv_dl f c n d) (plin_dl c)) (by omega)) (dl_mono (pc_dl _) (by omega))
theorem l_mov {t : fcS} {q m n : Nat} (hq : isP q) (hp : rp t q) (hm : (q + 1) ^ m < 2 ^ 30) {f : PS q} (hf : dl f m) (hn : n + 1 ≤ m) (hm2 : 2 ≤ m) (c : Fin (q + 1)) {post : Int32 → fcS → Prop} (h : post (Ni q (pmv f c (n + 1) n)) t) : ∀ k d, d + k = n + 1 → q_X3_movedBy_9 post (k + 1) (Ni q f) (nI c.val) (Ni q (pmv f c d n)) (nI k + (-1)) t := by
  have hl := isP_lo hq
  have h18 := pow18 hl.1 hm
  intro k
  induction k with
  | zero =>
    intro d e
    unfold q_X3_movedBy_9
    have e : d = n + 1 := by omega
    subst e
    exact ⟨fun _ => h, fun c => absurd (by decide) c⟩
  | succ k ih =>
    intro d e
    unfold q_X3_movedBy_9
    rw [pk_m1]
    refine ⟨fun c => absurd c (nI_pos (by omega)), fun _ => ?_⟩
    rw [show fgi t 1 0 = nI (q + 1) from hp, ← Ni_lin hq c]
    have hd1 := pmv_dl f c n d
    refine s_pro (a := max d 1) (b := 2) (M := m) hq hp (by omega) (by omega) hm (dl_mono hd1 (by omega)) (plin_dl c) ?_
    · refine s_coefS hq hp hm hf (by omega) ?_
      rw [← Ni_c hq]
      refine s_sum (m := m) hq hp hm (dl_mono (dl_mul hd1 (plin_dl c)) (by omega)) (dl_mono (pc_dl _) (by omega)) ?_
      intro x9 e9
      rw [e9]
      have := ih (d + 1) (by omega)
      have e2 : pmv f c (d + 1) n = padd (pl_mul (pmv f c d n) (plin c)) (pl_c (f k)) := by
        show padd (pl_mul (pmv f c d n) (plin c)) (pl_c (f (n - d))) = _
        rw [show n - d = k by omega]
      rw [e2] at this
      exact this
theorem s_mov {t : fcS} {q m n : Nat} (hq : isP q) (hp : rp t q) (hm : (q + 1) ^ m < 2 ^ 30) {f : PS q} (hf : dl f m) (hn : hd f n) (hm2 : 2 ≤ m) (c : Fin (q + 1)) {post : Int32 → fcS → Prop} (h : post (Ni q (pmv f c (n + 1) n)) t) : q_X3_movedBy t (Ni q f) (nI c.val) post := by
  have hnm := hd_lt hn hf
  unfold q_X3_movedBy
  refine s_degS hq hp hm hf hn ⟨n + 1 + 1, ?_⟩
  have := l_mov hq hp hm hf (by omega) hm2 c h (n + 1) 0 (by omega)
  rw [pk_m1] at this
  rw [show Ni q (pmv f c 0 n) = 0 from Ni_zero] at this
  exact this
/-- v v by x x + a x + b, in the class's own way -/
theorem s_sqr {t : fcS} {q : Nat} (hq : isP q) (hp : rp t q) (u v : Nat) (hu : u < 2 ^ 30) (hv : v < (q + 1) ^ 2) {post : Int32 → fcS → Prop} (h : post (nI ((v / (q + 1) * (2 * (v % (q + 1)) + (q + 1 - u / (q + 1) % (q + 1)) * (v / (q + 1)))) % (q + 1) * (q + 1) + (v % (q + 1) * (v % (q + 1)) + (q + 1 - u % (q + 1)) * (v / (q + 1)) * (v / (q + 1))) % (q + 1))) t) : q_X3_squareRest t (nI v) (nI u) post := by
  have hl := isP_lo hq
  have h2 : (q + 1) ^ 2 ≤ 13 ^ 2 := Nat.pow_le_pow_left (by omega) 2
  have hv1 : v / (q + 1) < q + 1 := by
    rw [Nat.div_lt_iff_lt_mul (by omega), ← Nat.pow_two]; exact hv
  have hv0 := Nat.mod_lt v (show 0 < q + 1 by omega)
  have hu1 := Nat.mod_lt (u / (q + 1)) (show 0 < q + 1 by omega)
  have hu0 := Nat.mod_lt u (show 0 < q + 1 by omega)
  have hud : u / (q + 1) ≤ u := Nat.div_le_self _ _
  unfold q_X3_squareRest
  have hz := rp_ne hp hq
  rw [show fgi t 1 0 = nI (q + 1) from hp] at hz ⊢
  refine ⟨hz, fun x1 e1 => ⟨hz, fun x2 e2 => ⟨hz, hz, fun x3 e3 => ⟨hz, fun x4 e4 => ⟨hz, fun x5 e5 => ⟨hz, fun x6 e6 => ?_⟩⟩⟩⟩⟩⟩
  rw [pk_div (by omega) (by omega) (by omega)] at e1
  rw [rem_nI (by omega) (by omega) (by omega)] at e2
  rw [pk_div (by omega) (by omega) (by omega), rem_nI (by omega) (by omega) (by omega), pk_sub (by omega)] at e3
  rw [rem_nI (by omega) (by omega) (by omega), pk_sub (by omega)] at e4
  generalize v / (q + 1) = v1 at *
  generalize v % (q + 1) = v0 at *
  generalize u / (q + 1) % (q + 1) = u1 at *
  generalize u % (q + 1) = u0 at *
  have b1 : (q + 1 - u1) * v1 ≤ 13 * 12 := Nat.mul_le_mul (by omega) (by omega)
  have b2 : v1 * (2 * v0 + (q + 1 - u1) * v1) ≤ 12 * (24 + 156) := Nat.mul_le_mul (by omega) (by omega)
  have b3 : (q + 1 - u0) * v1 ≤ 13 * 12 := Nat.mul_le_mul (by omega) (by omega)
  have b4 : (q + 1 - u0) * v1 * v1 ≤ 156 * 12 := Nat.mul_le_mul (by omega) (by omega)
  have b5 : v0 * v0 ≤ 12 * 12 := Nat.mul_le_mul (by omega) (by omega)
  rw [e1, e2, e3, show (2 : Int32) = nI 2 from rfl, pk_mul, pk_mul, nI_add, pk_mul, rem_nI (by omega) (by omega) (by omega)] at e5
  rw [e1, e2, e4, pk_mul, pk_mul, pk_mul, nI_add, rem_nI (by omega) (by omega) (by omega)] at e6
  rw [e5, e6, pk_mul, nI_add]
  exact h
