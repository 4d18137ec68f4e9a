/-! the reference's division of rows -/
theorem fin_esub {q : Nat} (x y : Fin (q + 1)) (c : Fin (q + 1)) : ((x.val : Int) - (c.val : Int) * (y.val : Int)) % ((q + 1 : Nat) : Int) = ((x - y * c : Fin (q + 1)).val : Int) := by
  have h1 : (x - y * c : Fin (q + 1)) = x + y * (-c) := by grind
  rw [h1, ← fin_emod]
  have hc := c.isLt
  have h2 : ((-c : Fin (q + 1)).val : Int) = (((q + 1 : Nat) : Int) - c.val) % ((q + 1 : Nat) : Int) := by
    rw [Fin.neg_def]
    show (((q + 1 - c.val) % (q + 1) : Nat) : Int) = _
    rw [Int.natCast_emod, Int.natCast_sub (by omega)]
  have h3 : ((x.val : Int) + ((-c : Fin (q + 1)).val : Int) * (y.val : Int)) % ((q + 1 : Nat) : Int) = ((x.val : Int) + (((q + 1 : Nat) : Int) - c.val) * (y.val : Int)) % ((q + 1 : Nat) : Int) := by
    rw [h2, Int.add_emod, Int.mul_emod, Int.emod_emod, ← Int.mul_emod, ← Int.add_emod]
  rw [h3]
  have h4 : (x.val : Int) + (((q + 1 : Nat) : Int) - c.val) * (y.val : Int) = ((x.val : Int) - (c.val : Int) * (y.val : Int)) + ((q + 1 : Nat) : Int) * (y.val : Int) := by
    rw [Int.sub_mul]; omega
  rw [h4, Int.add_mul_emod_self_left]
def pdn {q : Nat} (lf g : PS q) (c : Fin (q + 1)) (kk j : Nat) : PS q := fun i => if kk ≤ i ∧ i < kk + j then lf i - g (i - kk) * c else lf i
theorem pdn_end {q n : Nat} (lf : PS q) {g : PS q} (hg : dl g (n + 1)) (c : Fin (q + 1)) (kk : Nat) : pdn lf g c kk (n + 1) = psub lf (psh kk (pscl g c)) := by
  funext i
  show (if kk ≤ i ∧ i < kk + (n + 1) then lf i - g (i - kk) * c else lf i) = lf i - (if i < kk then 0 else g (i - kk) * c)
  rcases Nat.lt_or_ge i kk with w | w
  · rw [if_neg (by omega), if_pos w]; grind
  · rw [if_neg (show ¬ i < kk by omega)]
    split
    · rfl
    · rw [hg (i - kk) (by omega)]; grind
theorem l_mdiv {q : Nat} (hq : isP q) {t : fcS} (hp : mp t q) {rq rr b n : Nat} (h1 : rq < 40) (h2 : rr < 40) (h3 : b < 40) (d1 : rq ≠ rr) (d2 : b ≠ rq) (d3 : b ≠ rr) {g : PS q} (hg : rwI t b g) (hgn : dl g (n + 1)) (hg0 : g n ≠ 0) (hn : n < 16) {post : fcS → Prop} : ∀ (F k : Nat) (Q lf : PS q) (t1 : fcS), k ≤ F → k ≤ 16 → dl lf k → (k = 0 ∨ lf (k - 1) ≠ 0) → (∀ i, i + n < k → Q i = 0) → eqL t t1 [rq, rr] → rwI t1 rq Q → rwI t1 rr lf → (∀ t2, eqL t t2 [rq, rr] → rwI t2 rq (padd Q (pquo lf g)) → rwI t2 rr (prem lf g) → post t2) → q_X5_divide_45 post (F + 1) (nI rq) (nI rr) (nI b) (nI n) (nI (fiv q (g n)).val) (nI k + (-1)) t1 := by
  have hl := isP_lo hq
  intro F
  induction F with
  | zero =>
    intro k Q lf t1 hk hk16 hlf _ hQ e1 r1 r2 h
    have hk0 : k = 0 := by omega
    subst hk0
    unfold q_X5_divide_45
    refine ⟨fun _ => ?_, fun c => absurd ((lt_m1 (by omega) (by omega)).mpr (Nat.zero_le n)) c⟩
    have hz := prem_small hq hgn hg0 (dl_mono hlf (Nat.zero_le n))
    rw [hz.1, hz.2, padd_z] at h
    exact h t1 e1 r1 r2
  | succ F ih =>
    intro k Q lf t1 hk hk16 hlf hk0 hQ e1 r1 r2 h
    unfold q_X5_divide_45
    refine ⟨fun c => ?_, fun c => ?_⟩
    · have hkn : k ≤ n := (lt_m1 (by omega) (by omega)).mp c
      have hz := prem_small hq hgn hg0 (dl_mono hlf hkn)
      rw [hz.1, hz.2, padd_z] at h
      exact h t1 e1 r1 r2
    · have hkn : n < k := by
        rcases Nat.lt_or_ge n k with w | w
        · exact w
        · exact absurd ((lt_m1 (by omega) (by omega)).mpr w) c
      obtain ⟨k1, rfl⟩ : ∃ k1, k = k1 + 1 := ⟨k - 1, by omega⟩
      obtain ⟨kk, hkk⟩ : ∃ kk, k1 = n + kk := ⟨k1 - n, by omega⟩
      subst hkk
      rw [pk_m1]
      obtain ⟨x1, x2, x3⟩ := ix (i := n + kk) h2 (by omega)
      obtain ⟨y1, y2, y3⟩ := ix (i := n + kk) h1 (by omega)
      obtain ⟨z1, z2, z3⟩ := ix (i := kk) h1 (by omega)
      have ey : nI (16 * rq + (n + kk)) - nI n = nI (16 * rq + kk) := by
        rw [pk_sub (by omega)]; congr 1; omega
      rw [x1, y1, x3, ey, z3, r2.2 (n + kk) (by omega)]
      have hp1 : fgi t1 53 1 = nI (q + 1) := eqL_mp e1 hp
      rw [hp1, mul_rem hq]
      refine ⟨x2, nI_ne0 (by omega) (by omega), fun x9 e9 => ⟨z2, fun t10 e10 => ?_⟩⟩
      obtain ⟨c1, hc1⟩ : ∃ c1, c1 = lf (n + kk) * fiv q (g n) := ⟨_, rfl⟩
      rw [← hc1] at e9
      have hQk : Q kk = 0 := hQ kk (by omega)
      have hQ' : (padd Q (pmo c1 kk)) kk = c1 := by
        show Q kk + pmo c1 kk kk = c1
        unfold pmo; rw [if_pos rfl, hQk]; grind
      have e10' : t10 = fsa t1 60 (16 * rq + kk) (nI (padd Q (pmo c1 kk) kk).val) := by rw [e10, e9, hQ']
      have e2 : eqL t t10 [rq, rr] := by rw [e10]; exact eqL_fsa e1 (by simp) (by omega) _
      have r3 : rwI t10 rq (padd Q (pmo c1 kk)) := by
        rw [e10']
        refine rwI_set r1 (by omega) (dl_add r1.1 (dl_mono (pmo_dl c1 kk) (by omega))) (fun j hj => ?_)
        show Q j + pmo c1 kk j = Q j
        unfold pmo; rw [if_neg hj]; grind
      have r4 : rwI t10 rr lf := by
        refine ⟨r2.1, fun i hi => ?_⟩
        rw [e10, ga_fsa, if_neg, r2.2 i hi]
        omega
      refine ⟨n + 1 + 1, ?_⟩
      rw [e9]
      have hs := prem_sub hq hlf hgn hg0 c1 kk
      have e5 := fiv_mul hq hg0
      have htop : dl (psub lf (psh kk (pscl g c1))) (n + kk) := fun i hi => by
        show lf i - psh kk (pscl g c1) i = 0
        unfold psh pscl
        rw [if_neg (by omega)]
        rcases Nat.lt_or_ge (n + kk) i with w | w
        · rw [hlf i (by omega), hgn (i - kk) (by omega)]; grind
        · have : i = n + kk := by omega
          subst this
          rw [show n + kk - kk = n by omega, hc1]; grind
      have hres : ∀ t2, eqL t t2 [rq, rr] → rwI t2 rq (padd (padd Q (pmo c1 kk)) (pquo (psub lf (psh kk (pscl g c1))) g)) → rwI t2 rr (prem (psub lf (psh kk (pscl g c1))) g) → post t2 := by
        intro t2 u1 u2 u3
        refine h t2 u1 ?_ (by rw [← hs.1]; exact u3)
        have : padd (padd Q (pmo c1 kk)) (pquo (psub lf (psh kk (pscl g c1))) g) = padd Q (pquo lf g) := by
          rw [← hs.2]
          funext i
          show Q i + pmo c1 kk i + pquo _ g i = Q i + (pquo _ g i + pmo c1 kk i)
          grind
        rw [this] at u2
        exact u2
      -- the inner loop
      have inner : ∀ d j (t2 : fcS), j + d = n + 1 → eqL t t2 [rq, rr] → rwI t2 rq (padd Q (pmo c1 kk)) → rwI t2 rr (pdn lf g c1 kk j) → q_X5_divide_94 post (fun v1_ v2_ v4_ v5_ v6_ v7_ t_ => q_X5_divide_45 post (F + 1) v1_ v2_ v4_ v5_ v6_ v7_ t_) (d + 1) (nI rq) (nI rr) (nI b) (nI n) (nI (fiv q (g n)).val) (nI (n + kk)) (nI c1.val) (nI j) t2 := by
        intro d
        induction d with
        | zero =>
          intro j t2 ej u1 u2 u3
          unfold q_X5_divide_94
          have ej : j = n + 1 := by omega
          subst ej
          rw [pdn_end lf hgn c1 kk] at u3
          refine ⟨fun _ => ?_, fun c => absurd (nI_lt (by omega) (by omega)) c⟩
          refine m_deg2 hq h2 u3 (fun k2 v1 v2 v3 => ?_)
          have hk2 : k2 ≤ n + kk := by
            rcases v3 with z | z
            · omega
            · rcases Nat.lt_or_ge (k2 - 1) (n + kk) with w | w
              · omega
              · exact absurd (htop _ w) z
          refine ih k2 _ _ t2 (by omega) v1 v2 v3 (fun i hi => ?_) u1 u2 u3 hres
          show Q i + pmo c1 kk i = 0
          unfold pmo
          rw [if_neg (by omega), hQ i (by omega)]; grind
        | succ d ihd =>
          intro j t2 ej u1 u2 u3
          unfold q_X5_divide_94
          refine ⟨fun c => absurd ((nI_ltI (by omega) (by omega)).mp c) (by omega), fun _ => ?_⟩
          obtain ⟨w1, w2, w3⟩ := ix (i := kk + j) h2 (by omega)
          obtain ⟨s1, s2, s3⟩ := ix (i := j) h3 (by omega)
          have ew : nI (16 * rr + (n + kk)) - nI n + nI j = nI (16 * rr + (kk + j)) := by
            rw [pk_sub (by omega), nI_add]; congr 1; omega
          rw [x1, ew, s1, w3, s3, u3.2 (kk + j) (by omega)]
          have hgj : fga t2 60 (16 * b + j) = nI (g j).val := (eqL_row u1 (by simp; exact ⟨d2, d3⟩) hg).2 j (by omega)
          rw [hgj]
          have hold : pdn lf g c1 kk j (kk + j) = lf (kk + j) := by
            show (if kk ≤ kk + j ∧ kk + j < kk + j then _ else lf (kk + j)) = lf (kk + j)
            rw [if_neg (by omega)]
          have hnew : pdn lf g c1 kk (j + 1) (kk + j) = lf (kk + j) - g j * c1 := by
            show (if kk ≤ kk + j ∧ kk + j < kk + (j + 1) then lf (kk + j) - g (kk + j - kk) * c1 else lf (kk + j)) = _
            rw [if_pos (by omega), show kk + j - kk = j by omega]
          rw [hold]
          have l1 := (lf (kk + j)).isLt
          have l2 := (g j).isLt
          have l3 := c1.isLt
          have l4 : c1.val * (g j).val ≤ 12 * 12 := Nat.mul_le_mul (by omega) (by omega)
          have l5 : ((c1.val * (g j).val : Nat) : Int) = (c1.val : Int) * ((g j).val : Int) := Int.natCast_mul _ _
          have ez : (nI (lf (kk + j)).val - nI c1.val * nI (g j).val).toInt = ((lf (kk + j)).val : Int) - (c1.val : Int) * ((g j).val : Int) := by
            rw [pk_mul, pk_sub_toInt (by omega) (by omega), l5]
          refine ⟨w2, s2, ?_⟩
          refine m_left (c := lf (kk + j) - g j * c1) hq (eqL_mp u1 hp) (by rw [ez]; omega) (by rw [ez]; omega) (by rw [ez]; exact fin_esub _ _ _) ?_
          refine ⟨w2, fun t15 e15 x16 e16 => ?_⟩
          rw [e16, nI_1]
          have e15' : t15 = fsa t2 60 (16 * rr + (kk + j)) (nI (pdn lf g c1 kk (j + 1) (kk + j)).val) := by rw [e15, hnew]
          have hdl : dl (pdn lf g c1 kk (j + 1)) 16 := fun i hi => by
            show (if kk ≤ i ∧ i < kk + (j + 1) then lf i - g (i - kk) * c1 else lf i) = 0
            rw [if_neg (by omega)]; exact r2.1 i hi
          refine ihd (j + 1) t15 (by omega) (by rw [e15]; exact eqL_fsa u1 (by simp) (by omega) _) ?_ ?_
          · refine ⟨u2.1, fun i hi => ?_⟩
            rw [e15, ga_fsa, if_neg, u2.2 i hi]
            omega
          · rw [e15']
            refine rwI_set u3 (by omega) hdl (fun i hi => ?_)
            show (if kk ≤ i ∧ i < kk + (j + 1) then lf i - g (i - kk) * c1 else lf i) = if kk ≤ i ∧ i < kk + j then lf i - g (i - kk) * c1 else lf i
            by_cases w : kk ≤ i ∧ i < kk + j
            · rw [if_pos w, if_pos (by omega)]
            · rw [if_neg w, if_neg (by omega)]
      refine inner (n + 1) 0 t10 (by omega) e2 r3 ?_
      have : pdn lf g c1 kk 0 = lf := by
        funext i
        show (if kk ≤ i ∧ i < kk + 0 then _ else lf i) = lf i
        rw [if_neg (by omega)]
      rw [this]; exact r4
theorem m_div {q : Nat} (hq : isP q) {t : fcS} (hp : mp t q) {rq rr a b : Nat} (h1 : rq < 40) (h2 : rr < 40) (h4 : a < 40) (h3 : b < 40) (d1 : rq ≠ rr) (d2 : b ≠ rq) (d3 : b ≠ rr) (d4 : a ≠ rq) (d5 : a ≠ rr) {f g : PS q} (hf : rwI t a f) (hg : rwI t b g) (hg0 : g ≠ pz) {post : fcS → Prop} (h : ∀ t2, eqL t t2 [rq, rr] → rwI t2 rq (pquo f g) → rwI t2 rr (prem f g) → post t2) : q_X5_divide t (nI rq) (nI rr) (nI a) (nI b) post := by
  have hl := isP_lo hq
  unfold q_X5_divide
  refine m_clear (q := q) h1 (fun t1 e1 r1 => ?_)
  have f1 : rwI t1 a f := eqL_row e1 (by simp; exact d4) hf
  have g1 : rwI t1 b g := eqL_row e1 (by simp; exact d2) hg
  refine m_copy h2 h4 (fun z => d5 z.symm) f1 (fun t2 e2 r2 => ?_)
  have f2 : rwI t2 a f := eqL_row e2 (by simp; exact d5) f1
  have g2 : rwI t2 b g := eqL_row e2 (by simp; exact d3) g1
  have q2 : rwI t2 rq (pz : PS q) := eqL_row e2 (by simp; exact d1) r1
  have e3 : eqL t t2 [rq, rr] := eqL_tr e1 e2
  have hp2 : mp t2 q := eqL_mp e3 hp
  refine m_deg hq h3 g2 (fun z => absurd z hg0) (fun n n1 n2 n3 => ?_)
  obtain ⟨x1, x2, x3⟩ := ix (i := n) h3 n1
  rw [x1, x3, g2.2 n n1]
  refine ⟨x2, ?_⟩
  refine m_inv hq hp2 n3 ?_
  refine m_deg2 hq h2 r2 (fun k k1 k2 k3 => ?_)
  refine ⟨16 + 1, ?_⟩
  refine l_mdiv hq hp2 h1 h2 h3 d1 d2 d3 g2 n2 n3 n1 16 k pz f t2 k1 k1 k2 k3 (fun _ _ => rfl) (eqL_rf t2 _) q2 r2 (fun t4 u1 u2 u3 => ?_)
  rw [padd_zl] at u2
  exact h t4 (eqL_mono (eqL_tr e3 u1) (fun z hz => by simp at hz ⊢; omega)) u2 u3
