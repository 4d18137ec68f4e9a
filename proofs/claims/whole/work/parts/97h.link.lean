/-! 13: what was computed -/
theorem evl_sf {q : Nat} {S : Type} [Lean.Grind.CommRing S] {i : Fin (q + 1) → S} (hi : isHm i) (s : S) (c : Fin (q + 1)) : ∀ (n : Nat) (F : PS q), evl i s n (psf c n F) = evl i (i c + s) n F
  | 0, _ => rfl
  | n + 1, F => by
    have hG := psf_dl c n (ptl F)
    have k : evl i s (n + 1) (pl_mul (plin c) (psf c n (ptl F))) = (i c + s) * evl i (i c + s) n (ptl F) := by
      have e1 := evl_mul hi s hG 2 (plin_dl c)
      rw [evl_sf hi s c n, evl_le hi s (m := 2 + n) (n := n + 1) (dl_mono (dl_mul (plin_dl c) hG) (by omega)) (by omega)] at e1
      rw [e1]
      congr 1
      show i c + s * (i 1 + s * 0) = i c + s
      rw [hi.2.2.2]; grind
    rw [psf_s, evl_add hi, evl_c hi s (F 0) n, k]
    rfl
theorem pv_sf {q : Nat} (P : PS q) (c a : Fin (q + 1)) : pv (psf c 7 P) a = pv P (c + a) := evl_sf hm_id a c 7 P
theorem ph_sf {q : Nat} (P : PS q) (c h D : Fin (q + 1)) : ph (psf c 7 P) h D = ph P (h - c) D := by
  have k := @evl_sf q (Fin (q + 1) × Fin (q + 1)) (pairRing D) (fun a => (a, 0)) (hm_pr D) (-h, 1) c 7 P
  have e : ((c + -h, 0 + 1) : Fin (q + 1) × Fin (q + 1)) = (-(h - c), 1) := Prod.ext (by show c + -h = -(h - c); grind) (by show (0 : Fin (q + 1)) + 1 = 1; grind)
  refine Eq.trans k ?_
  show @evl q (Fin (q + 1) × Fin (q + 1)) (pairRing D) (fun a => (a, 0)) (c + -h, 0 + 1) 7 P = _
  rw [e]
  rfl
theorem Af_sf {q : Nat} (P : PS q) (c : Fin (q + 1)) : Af (psf c 7 P) = Af P := by
  unfold Af
  rw [sF_cong (fun a => by rw [pv_sf])]
  exact sF_perm (s := fun a : Fin (q + 1) => c + a) (fun a b e => by
    have e : c + a = c + b := e
    grind) (fun a => nr (pv P a))
theorem If_sf {q : Nat} (P : PS q) (c : Fin (q + 1)) : If (psf c 7 P) = If P := by
  have k : ∀ h D : Fin (q + 1), Jf (psf c 7 P) h D = Jf P (h - c) D := fun h D => by
    unfold Jf
    rw [ph_sf]
  unfold If
  rw [sF_cong (fun h => sF_cong (fun D => k h D))]
  exact sF_perm (s := fun h : Fin (q + 1) => h - c) (fun a b e => by
    have e : a - c = b - c := e
    grind) (fun h => sF (fun D => Jf P h D))
theorem pv_scl {q : Nat} (P : PS q) (k a : Fin (q + 1)) : pv (pscl P k) a = k * pv P a := evl_scl hm_id a k 7 P
theorem ph_scl {q : Nat} (P : PS q) (k h D : Fin (q + 1)) : ph (pscl P k) h D = (k * (ph P h D).1 + 0 * (ph P h D).2 * D, k * (ph P h D).2 + 0 * (ph P h D).1) := @evl_scl q (Fin (q + 1) × Fin (q + 1)) (pairRing D) (fun a => (a, 0)) (hm_pr D) (-h, 1) k 7 P
theorem nr_k13 : ∀ k x : Fin (12 + 1), nr k = 2 → nr (k * x) = nr x := by decide +kernel
theorem nr_kk13 : ∀ k : Fin (12 + 1), nr k = 2 → nr (k * k) = 2 := by decide +kernel
theorem Af_scl (P : PS 12) {k : Fin (12 + 1)} (hk : nr k = 2) : Af (pscl P k) = Af P := by
  unfold Af
  exact sF_cong (fun a => by rw [pv_scl, nr_k13 k _ hk])
theorem If_scl (P : PS 12) {k : Fin (12 + 1)} (hk : nr k = 2) : If (pscl P k) = If P := by
  unfold If
  refine sF_cong (fun h => sF_cong (fun D => ?_))
  unfold Jf
  rw [ph_scl]
  have e : (k * (ph P h D).1 + 0 * (ph P h D).2 * D) * (k * (ph P h D).1 + 0 * (ph P h D).2 * D) - (k * (ph P h D).2 + 0 * (ph P h D).1) * (k * (ph P h D).2 + 0 * (ph P h D).1) * D = (k * k) * ((ph P h D).1 * (ph P h D).1 - (ph P h D).2 * (ph P h D).2 * D) := by
    generalize (ph P h D).1 = x
    generalize (ph P h D).2 = y
    grind
  show (if nr D = 0 ∧ 0 < nr ((k * (ph P h D).1 + 0 * (ph P h D).2 * D) * (k * (ph P h D).1 + 0 * (ph P h D).2 * D) - (k * (ph P h D).2 + 0 * (ph P h D).1) * (k * (ph P h D).2 + 0 * (ph P h D).1) * D) then 1 else 0) = _
  rw [e, nr_k13 (k * k) _ (nr_kk13 k hk)]
/-- six neighbours with two points each -/
theorem run6a : ∀ i j : Fin (12 + 1), ∃ t : Fin (12 + 1), t + 0 ≠ i ∧ t + 0 ≠ j ∧ t + 1 ≠ i ∧ t + 1 ≠ j ∧ t + 2 ≠ i ∧ t + 2 ≠ j ∧ t + 3 ≠ i ∧ t + 3 ≠ j ∧ t + 4 ≠ i ∧ t + 4 ≠ j ∧ t + 5 ≠ i ∧ t + 5 ≠ j := by decide +kernel
theorem run6b : ∀ a b c : Fin (12 + 1), a ≠ b → a ≠ c → b ≠ c → sF (fun x : Fin (12 + 1) => if x = a ∨ x = b ∨ x = c then 1 else 2) ≤ 23 := by decide +kernel
theorem run6 {w : Fin (12 + 1) → Nat} (h2 : ∀ a, w a ≤ 2) (hA : 24 ≤ sF w) : ∃ t, w (t + 0) = 2 ∧ w (t + 1) = 2 ∧ w (t + 2) = 2 ∧ w (t + 3) = 2 ∧ w (t + 4) = 2 ∧ w (t + 5) = 2 := by
  by_cases c : ∃ i j, ∀ a, a ≠ i → a ≠ j → w a = 2
  · obtain ⟨i, j, hij⟩ := c
    obtain ⟨t, a0, b0, a1, b1, a2, b2, a3, b3, a4, b4, a5, b5⟩ := run6a i j
    exact ⟨t, hij _ a0 b0, hij _ a1 b1, hij _ a2 b2, hij _ a3 b3, hij _ a4 b4, hij _ a5 b5⟩
  · exfalso
    have key : ∀ i j, ∃ a, a ≠ i ∧ a ≠ j ∧ w a ≠ 2 := fun i j => by
      by_cases z : ∃ a, a ≠ i ∧ a ≠ j ∧ w a ≠ 2
      · exact z
      · exfalso
        refine c ⟨i, j, fun a h1 h2 => ?_⟩
        by_cases y : w a = 2
        · exact y
        · exact absurd ⟨a, h1, h2, y⟩ z
    obtain ⟨a, -, -, wa⟩ := key 0 0
    obtain ⟨b, ba, -, wb⟩ := key a a
    obtain ⟨d, da, db, wd⟩ := key a b
    have := run6b a b d ba.symm da.symm db.symm
    have le : sF w ≤ sF (fun x : Fin (12 + 1) => if x = a ∨ x = b ∨ x = d then 1 else 2) := sF_le (fun x => by
      by_cases y : x = a ∨ x = b ∨ x = d
      · rw [if_pos y]
        have := h2 x
        rcases y with e | e | e <;> subst e <;> omega
      · rw [if_neg y]; exact h2 x)
    omega
theorem nr_nrn0 : ∀ r : Fin (12 + 1), nr r = nrn r.val := by decide +kernel
theorem nr_nrn (x : Nat) : nr (Fin.ofNat (12 + 1) x) = nrn x := by
  rw [nr_nrn0, fo_val]
  unfold nrn
  rw [Nat.add_mod, ← Nat.pow_mod, ← Nat.add_mod]
theorem sq_mem : ∀ z : Fin (12 + 1), nr z = 2 → z.val ∈ sqs := by decide +kernel
theorem pv_exp {q : Nat} {Q : PS q} (hQ : dl Q 6) (a : Fin (q + 1)) : pv Q a = Q 0 + a * (Q 1 + a * (Q 2 + a * (Q 3 + a * (Q 4 + a * Q 5)))) := by
  have e : pv Q a = evl id a 6 Q := evl_le hm_id a hQ (by omega)
  rw [e]
  show Q 0 + a * (Q 1 + a * (Q 2 + a * (Q 3 + a * (Q 4 + a * (Q 5 + a * 0))))) = _
  rw [show Q 5 + a * 0 = Q 5 by grind]
theorem pv_n {Q : PS 12} (hQ : dl Q 6) (a : Nat) : pv Q (Fin.ofNat (12 + 1) a) = Fin.ofNat (12 + 1) (evn (Q 0).val (Q 1).val (Q 2).val (Q 3).val (Q 4).val (Q 5).val a) := by
  rw [pv_exp hQ]
  unfold evn
  simp only [fo_add 12, fo_mul 12, fo_self]
theorem interp {c0 c1 c2 c3 c4 c5 z1 z2 z3 z4 z5 : Nat} (h0 : c0 < 13) (h1 : c1 < 13) (h2 : c2 < 13) (h3 : c3 < 13) (h4 : c4 < 13) (h5 : c5 < 13) (e0 : 1 = evn c0 c1 c2 c3 c4 c5 0 % 13) (e1 : z1 = evn c0 c1 c2 c3 c4 c5 1 % 13) (e2 : z2 = evn c0 c1 c2 c3 c4 c5 2 % 13) (e3 : z3 = evn c0 c1 c2 c3 c4 c5 3 % 13) (e4 : z4 = evn c0 c1 c2 c3 c4 c5 4 % 13) (e5 : z5 = evn c0 c1 c2 c3 c4 c5 5 % 13) : (1 * 1 + 0 * z1 + 0 * z2 + 0 * z3 + 0 * z4 + 0 * z5) % 13 = c0 ∧ (4 * 1 + 5 * z1 + 8 * z2 + 12 * z3 + 2 * z4 + 8 * z5) % 13 = c1 ∧ (10 * 1 + 12 * z1 + 10 * z2 + 0 * z3 + 2 * z4 + 5 * z5) % 13 = c2 ∧ (2 * 1 + 10 * z1 + 7 * z2 + 3 * z3 + 1 * z4 + 3 * z5) % 13 = c3 ∧ (5 * 1 + 7 * z1 + 0 * z2 + 12 * z3 + 1 * z4 + 1 * z5) % 13 = c4 ∧ (4 * 1 + 6 * z1 + 1 * z2 + 12 * z3 + 7 * z4 + 9 * z5) % 13 = c5 := by
  unfold evn at *
  refine ⟨by omega, by omega, by omega, by omega, by omega, by omega⟩
