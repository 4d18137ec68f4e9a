/-! the reference's greatest common divisor of rows -/
theorem psub_neg {q : Nat} (f g : PS q) : padd f (pscl g (-1)) = psub f g := by
  funext n; show f n + g n * (-1) = f n - g n; grind
theorem neg1_val {q : Nat} (hq : isP q) : (-1 : Fin (q + 1)).val = q := by
  rcases hq with rfl | rfl | rfl | rfl | rfl <;> rfl
theorem mp_m1 {t : fcS} {q : Nat} (hq : isP q) (hp : mp t q) : fgi t 53 1 - 1 = nI (-1 : Fin (q + 1)).val := by
  rw [show fgi t 53 1 = nI (q + 1) from hp, nI_pred, neg1_val hq]
abbrev cmL (v1 v2 v3 : Nat) : List Nat := [v1, v2, v3, 30, 31, 32, 33, 34, 35, 36]
theorem cm_end {q : Nat} (hq : isP q) {t t1 : fcS} (hp : mp t q) {v1 v2 v3 da : Nat} (h1 : v1 < 30) (h2 : v2 < 30) (h3 : v3 < 30) (d1 : v1 ≠ v2) (d2 : v1 ≠ v3) (d3 : v2 ≠ v3) {a x y : PS q} (ha : dl a (da + 1)) (ha0 : a da ≠ 0) (e1 : eqL t t1 (cmL v1 v2 v3)) (r1 : rwI t1 v1 a) (r3 : rwI t1 v2 x) (r5 : rwI t1 v3 y) {post : fcS → Prop} (h : ∀ t2, eqL t t2 (cmL v1 v2 v3) → rwI t2 v1 (pscl a (fiv q (a (ptop a)))) → rwI t2 v2 (pscl x (fiv q (a (ptop a)))) → rwI t2 v3 (pscl y (fiv q (a (ptop a)))) → post t2) : q_X5_degree t1 (nI v1) (fun (r10 : Int32) (t9 : fcS) => (vp_in (((16 * nI v1) + r10)) 640) ∧ (q_X5_inverse t9 ((fga t9 60 (Int32.toNatClampNeg (((16 * nI v1) + r10))))) (fun (r12 : Int32) (t11 : fcS) => q_X5_scale t11 (nI v1) r12 (fun (t13 : fcS) => q_X5_scale t13 (nI v2) r12 (fun (t14 : fcS) => q_X5_scale t14 (nI v3) r12 (fun (t15 : fcS) => post t15)))))) := by
  have ht : ptop a = da := ptop_at ⟨ha, Or.inr ha0⟩
  rw [ht] at h
  refine m_deg hq (by omega) r1 (fun z => absurd (by rw [z]; rfl) ha0) (fun n n1 n2 n3 => ?_)
  have hn : n = da := hd_uq ⟨n2, Or.inr n3⟩ ⟨ha, Or.inr ha0⟩
  subst hn
  obtain ⟨x1, x2, x3⟩ := ix (i := n) (show v1 < 40 by omega) n1
  rw [x1, x3, r1.2 n n1]
  refine ⟨x2, m_inv hq (eqL_mp e1 hp) n3 ?_⟩
  refine m_scl hq (eqL_mp e1 hp) (by omega) _ r1 (fun t2 e2 s1 => ?_)
  have e2' := eqL_tr e1 e2
  refine m_scl hq (eqL_mp e2' hp) (by omega) _ (eqL_row e2 (by simp; exact fun z => d1 z.symm) r3) (fun t3 e3 s3 => ?_)
  have e3' := eqL_tr e2' e3
  refine m_scl hq (eqL_mp e3' hp) (by omega) _ (eqL_row e3 (by simp; exact fun z => d3 z.symm) (eqL_row e2 (by simp; exact fun z => d2 z.symm) r5)) (fun t4 e4 s5 => ?_)
  refine h t4 (eqL_mono (eqL_tr e3' e4) (fun z hz => by simp at hz ⊢; omega)) ?_ ?_ s5
  · exact eqL_row e4 (by simp; exact d2) (eqL_row e3 (by simp; exact d1) s1)
  · exact eqL_row e4 (by simp; exact d3) s3
/-- one turn of the loop -/
theorem cm_step {q : Nat} (hq : isP q) {t t1 : fcS} (hp : mp t q) {v1 v2 v3 m nx ny : Nat} (h1 : v1 < 30) (h2 : v2 < 30) (h3 : v3 < 30) (d1 : v1 ≠ v2) (d2 : v1 ≠ v3) (d3 : v2 ≠ v3) {a b x x' y y' : PS q} (hb0 : b ≠ pz) (hQ : dl (pquo a b) m) (hx : dl x' nx) (hy : dl y' ny) (hmx : m + nx ≤ 17) (hmy : m + ny ≤ 17) (e1 : eqL t t1 (cmL v1 v2 v3)) (r1 : rwI t1 v1 a) (r2 : rwI t1 30 b) (r3 : rwI t1 v2 x) (r4 : rwI t1 31 x') (r5 : rwI t1 v3 y) (r6 : rwI t1 32 y') {post : fcS → Prop} (h : ∀ t2, eqL t t2 (cmL v1 v2 v3) → rwI t2 v1 b → rwI t2 30 (prem a b) → rwI t2 v2 x' → rwI t2 31 (psub x (pl_mul (pquo a b) x')) → rwI t2 v3 y' → rwI t2 32 (psub y (pl_mul (pquo a b) y')) → post t2) : q_X5_divide t1 33 34 (nI v1) 30 (fun (t16 : fcS) => q_X5_copy t16 (nI v1) 30 (fun (t17 : fcS) => q_X5_copy t17 30 34 (fun (t18 : fcS) => q_X5_multiply t18 35 33 31 (fun (t19 : fcS) => q_X5_join t19 36 (nI v2) 35 (((fgi t19 53 1) - 1)) (fun (t20 : fcS) => q_X5_copy t20 (nI v2) 31 (fun (t21 : fcS) => q_X5_copy t21 31 36 (fun (t22 : fcS) => q_X5_multiply t22 35 33 32 (fun (t23 : fcS) => q_X5_join t23 36 (nI v3) 35 (((fgi t23 53 1) - 1)) (fun (t24 : fcS) => q_X5_copy t24 (nI v3) 32 (fun (t25 : fcS) => q_X5_copy t25 32 36 post)))))))))) := by
  refine m_div (rq := 33) (rr := 34) (a := v1) (b := 30) hq (eqL_mp e1 hp) (by omega) (by omega) (by omega) (by omega) (by omega) (by omega) (by omega) (by omega) (by omega) r1 r2 hb0 (fun t2 f2 q1 q2 => ?_)
  have g2 := eqL_tr e1 f2
  have r2a := eqL_row f2 (by decide) r2
  refine m_copy (a := v1) (b := 30) (by omega) (by omega) (by omega) r2a (fun t3 f3 q3 => ?_)
  have g3 := eqL_tr g2 f3
  refine m_copy (a := 30) (b := 34) (by omega) (by omega) (by omega) (eqL_row f3 (by simp; omega) q2) (fun t4 f4 q4 => ?_)
  have g4 := eqL_tr g3 f4
  have k33 : rwI t4 33 (pquo a b) := eqL_row f4 (by decide) (eqL_row f3 (by simp; omega) q1)
  have k31 : rwI t4 31 x' := eqL_row f4 (by decide) (eqL_row f3 (by simp; omega) (eqL_row f2 (by decide) r4))
  refine m_mul (r := 35) (a := 33) (b := 31) hq (eqL_mp g4 hp) (by omega) (by omega) (by omega) (by omega) (by omega) k33 k31 hQ hx hmx (fun t5 f5 q5 => ?_)
  have g5 := eqL_tr g4 f5
  have kx : rwI t5 v2 x := eqL_row f5 (by simp; omega) (eqL_row f4 (by simp; omega) (eqL_row f3 (by simp; omega) (eqL_row f2 (by simp; omega) r3)))
  rw [mp_m1 hq (eqL_mp g5 hp)]
  refine m_join (a := 36) (b := v2) (d := 35) hq (eqL_mp g5 hp) (by omega) (by omega) (by omega) (by omega) (by omega) (-1) kx q5 (fun t6 f6 q6 => ?_)
  rw [psub_neg] at q6
  have g6 := eqL_tr g5 f6
  refine m_copy (a := v2) (b := 31) (by omega) (by omega) (by omega) (eqL_row f6 (by decide) (eqL_row f5 (by decide) k31)) (fun t7 f7 q7 => ?_)
  have g7 := eqL_tr g6 f7
  refine m_copy (a := 31) (b := 36) (by omega) (by omega) (by omega) (eqL_row f7 (by simp; omega) q6) (fun t8 f8 q8 => ?_)
  have g8 := eqL_tr g7 f8
  have k33b : rwI t8 33 (pquo a b) := eqL_row f8 (by decide) (eqL_row f7 (by simp; omega) (eqL_row f6 (by decide) (eqL_row f5 (by decide) k33)))
  have k32 : rwI t8 32 y' := eqL_row f8 (by decide) (eqL_row f7 (by simp; omega) (eqL_row f6 (by decide) (eqL_row f5 (by decide) (eqL_row f4 (by decide) (eqL_row f3 (by simp; omega) (eqL_row f2 (by decide) r6))))))
  refine m_mul (r := 35) (a := 33) (b := 32) hq (eqL_mp g8 hp) (by omega) (by omega) (by omega) (by omega) (by omega) k33b k32 hQ hy hmy (fun t9 f9 q9 => ?_)
  have g9 := eqL_tr g8 f9
  have ky : rwI t9 v3 y := eqL_row f9 (by simp; omega) (eqL_row f8 (by simp; omega) (eqL_row f7 (by simp; omega) (eqL_row f6 (by simp; omega) (eqL_row f5 (by simp; omega) (eqL_row f4 (by simp; omega) (eqL_row f3 (by simp; omega) (eqL_row f2 (by simp; omega) r5)))))))
  rw [mp_m1 hq (eqL_mp g9 hp)]
  refine m_join (a := 36) (b := v3) (d := 35) hq (eqL_mp g9 hp) (by omega) (by omega) (by omega) (by omega) (by omega) (-1) ky q9 (fun u1 f10 q10 => ?_)
  rw [psub_neg] at q10
  have g10 := eqL_tr g9 f10
  refine m_copy (a := v3) (b := 32) (by omega) (by omega) (by omega) (eqL_row f10 (by decide) (eqL_row f9 (by decide) k32)) (fun u2 f11 q11 => ?_)
  have g11 := eqL_tr g10 f11
  refine m_copy (a := 32) (b := 36) (by omega) (by omega) (by omega) (eqL_row f11 (by simp; omega) q10) (fun u3 f12 q12 => ?_)
  have g12 := eqL_tr g11 f12
  refine h u3 (eqL_mono g12 (fun z hz => by simp at hz ⊢; omega)) ?_ ?_ ?_ ?_ ?_ q12
  · exact eqL_row f12 (by simp; omega) (eqL_row f11 (by simp; omega) (eqL_row f10 (by simp; omega) (eqL_row f9 (by simp; omega) (eqL_row f8 (by simp; omega) (eqL_row f7 (by simp; omega) (eqL_row f6 (by simp; omega) (eqL_row f5 (by simp; omega) (eqL_row f4 (by simp; omega) q3))))))))
  · exact eqL_row f12 (by simp) (eqL_row f11 (by simp; omega) (eqL_row f10 (by simp) (eqL_row f9 (by simp) (eqL_row f8 (by simp) (eqL_row f7 (by simp; omega) (eqL_row f6 (by simp) (eqL_row f5 (by simp) q4)))))))
  · exact eqL_row f12 (by simp; omega) (eqL_row f11 (by simp; omega) (eqL_row f10 (by simp; omega) (eqL_row f9 (by simp; omega) (eqL_row f8 (by simp; omega) q7))))
  · exact eqL_row f12 (by simp) (eqL_row f11 (by simp; omega) (eqL_row f10 (by simp) (eqL_row f9 (by simp) q8)))
  · exact eqL_row f12 (by simp; omega) q11
