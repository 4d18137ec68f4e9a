/-! what holds between the calls -/
def dns (q : Nat) : Nat := if q = 6 then 3 else 2
/-- ITS POLYNOMIAL: kind, f, t -/
def cvP (q : Nat) (x : Nat × Nat × Nat) : PS q := pmv (if x.1 = 0 then pn q x.2.1 else pscl (pn q x.2.1) (Fin.ofNat (q + 1) (dns q))) (Fin.ofNat (q + 1) x.2.2) 7 6
noncomputable def cvd (q : Nat) (x : Nat × Nat × Nat) : Nat := ptop (pn q x.2.1)
noncomputable def cvg (q : Nat) (x : Nat × Nat × Nat) : Nat := if cvd q x ≤ 4 then 1 else 2
/-- a CURVE that is there -/
def cvV (q : Nat) (x : Nat × Nat × Nat) : Prop := x.1 ≤ 2 ∧ (q + 1) ^ 3 ≤ x.2.1 ∧ x.2.1 < (q + 1) ^ 7 ∧ x.2.2 ≤ q ∧ (x.1 ≠ 2 → x.2.2 = 0) ∧ hd (pgcd (pn q x.2.1) (pder (pn q x.2.1))) 0
/-- THE SHARE -/
noncomputable def shr (q : Nat) (P : PS q) (d g : Nat) : Nat → Int32 := fun i => if i = 0 then 1 else if i = 1 then cnt q 1 P d - nI (q + 1) - 1 else if g = 1 then (if i = 2 then nI (q + 1) else 0) else if i = 2 then (cnt q 2 P d - nI (q + 1) * nI (q + 1) - 1 + (cnt q 1 P d - nI (q + 1) - 1) * (cnt q 1 P d - nI (q + 1) - 1)) / 2 else if i = 3 then nI (q + 1) * (cnt q 1 P d - nI (q + 1) - 1) else nI ((q + 1) ^ 2)
/-- CLASSES -/
def gd (q : Nat) (P : PS q) (u v : Nat) : Prop := prem (psub P (pl_mul (pn q v) (pn q v))) (pn q u) = pz
noncomputable def gdb (q : Nat) (P : PS q) (u v : Nat) : Bool := @decide (gd q P u v) (Classical.propDecidable _)
noncomputable def clu (q : Nat) (P : PS q) (e u : Nat) : List (Nat × Nat) := ((List.range e).filter (fun v => gdb q P u v)).map (fun v => (u, v))
noncomputable def cld (q : Nat) (P : PS q) (d : Nat) : List (Nat × Nat) := (List.range ((q + 1) ^ d)).flatMap (fun a => clu q P ((q + 1) ^ d) ((q + 1) ^ d + a))
noncomputable def cls (q : Nat) (P : PS q) (g : Nat) : List (Nat × Nat) := (List.range (g + 1)).flatMap (fun d => cld q P d)
/-- a pair of a list -/
def pr (l : List (Nat × Nat)) (i : Nat) : Nat × Nat := l.getD i (0, 0)
def CB (t : fcS) (q C : Nat) (K : Int32) (T : Int64) : Prop := rp t q ∧ fgi t 0 5 = nI (nfd q) ∧ fgi t 0 6 = nI C ∧ fgi t 0 7 = nI (dns q) ∧ fgi t 0 8 = K ∧ fgj t 0 9 = T
def CF (t : fcS) : Prop := ∀ i, i < 5 → fgi t (6 + 3 * i) 1 = nI (i + 1) ∧ ∀ q, fl q (i + 1) → fgi t (6 + 3 * i) 4 = nI (q + 1) → ∃ g, tab t q (i + 1) (6 + 3 * i) g
def CS (t : fcS) (q k : Nat) (x : Nat × Nat × Nat) : Prop := fgi t k 3 = 0 ∨ ∀ i, i < 5 → fga t (k + 1) i = shr q (cvP q x) (cvd q x) (cvg q x) i
def CL (t : fcS) (q k : Nat) (x : Nat × Nat × Nat) : Prop := fgi t (k + 2) 4 = 0 ∨ (fgi t (k + 2) 4 = nI (cls q (cvP q x) (cvg q x)).length ∧ ∀ i, i < (cls q (cvP q x) (cvg q x)).length → fga t (k + 3) i = nI ((pr (cls q (cvP q x) (cvg q x)) i).1 * (q + 1) ^ 2 + (pr (cls q (cvP q x) (cvg q x)) i).2))
def CD (t : fcS) (q k : Nat) (x : Nat × Nat × Nat) : Prop := fgi t k 4 = nI x.1 ∧ fgi t k 5 = nI x.2.1 ∧ fgi t k 6 = nI x.2.2 ∧ fgi t k 7 = nI (cvd q x) ∧ fgi t k 8 = nI (cvg q x) ∧ fgi t k 9 = Ni q (cvP q x) ∧ fgi t (k + 2) 2 = Ni q (cvP q x) ∧ fgi t (k + 2) 3 = nI (cvg q x)
def CC (t : fcS) (q C : Nat) (cv : Nat → Nat × Nat × Nat) : Prop := ∀ j, j < C → CD t q (21 + 4 * j) (cv j) ∧ CS t q (21 + 4 * j) (cv j) ∧ CL t q (21 + 4 * j) (cv j)
def IC (q C : Nat) (cv : Nat → Nat × Nat × Nat) (K : Int32) (T : Int64) (t : fcS) : Prop := CB t q C K T ∧ CF t ∧ CC t q C cv
def RS (t : fcS) (q : Nat) : Prop := fgi t 53 15 = 0 ∨ ∃ n, fl q n ∧ fgi t 53 15 = nI n ∧ ∀ a, a < (q + 1) ^ n → fga t 61 a = sg q n a
def RC (t : fcS) (q C : Nat) (cv : Nat → Nat × Nat × Nat) : Prop := ∀ c, c < C → fga t 56 c = nI (cv c).1 ∧ fga t 57 c = nI (cv c).2.1 ∧ fga t 58 c = nI (cv c).2.2 ∧ ∀ i, i < 16 → fga t 59 (16 * c + i) = nI (cvP q (cv c) i).val
def RLi (t : fcS) (q C : Nat) (cv : Nat → Nat × Nat × Nat) : Prop := fgi t 53 16 = -9 ∨ ∃ c, c < C ∧ fgi t 53 16 = nI c ∧ fgi t 53 17 = nI (cls q (cvP q (cv c)) (cvg q (cv c))).length ∧ ∀ i, i < (cls q (cvP q (cv c)) (cvg q (cv c))).length → fga t 62 i = nI (pr (cls q (cvP q (cv c)) (cvg q (cv c))) i).1 ∧ fga t 63 i = nI (pr (cls q (cvP q (cv c)) (cvg q (cv c))) i).2
def RK (t : fcS) (q C : Nat) (K : Int32) (T : Int64) : Prop := fgi t 53 5 = nI (dns q) ∧ fgi t 53 6 = nI C ∧ fgi t 53 11 = K ∧ fgj t 53 12 = T
def IR (q C : Nat) (cv : Nat → Nat × Nat × Nat) (K : Int32) (T : Int64) (t : fcS) : Prop := RB t q ∧ RS t q ∧ RC t q C cv ∧ RLi t q C cv ∧ RK t q C K T
/-- the data themselves -/
def IV (q C : Nat) (cv : Nat → Nat × Nat × Nat) : Prop := isP q ∧ C ≤ 8 ∧ ∀ j, j < C → cvV q (cv j)
def Inv (t : fcS) : Prop := ∃ q C cv K T, IV q C cv ∧ IC q C cv K T t ∧ IR q C cv K T t
/-! what a call leaves as it was -/
def sameR (t t2 : fcS) : Prop := ∀ k, 53 ≤ k → (∀ j, fgi t2 k j = fgi t k j) ∧ fga t2 k = fga t k ∧ (∀ j, fgj t2 k j = fgj t k j) ∧ fgl t2 k = fgl t k
def sameC (t t2 : fcS) : Prop := ∀ k, k < 53 → (∀ j, fgi t2 k j = fgi t k j) ∧ fga t2 k = fga t k ∧ (∀ j, fgj t2 k j = fgj t k j) ∧ fgl t2 k = fgl t k
theorem sameR_rf (t : fcS) : sameR t t := fun _ _ => ⟨fun _ => rfl, rfl, fun _ => rfl, rfl⟩
theorem sameC_rf (t : fcS) : sameC t t := fun _ _ => ⟨fun _ => rfl, rfl, fun _ => rfl, rfl⟩
theorem sameR_tr {t t2 t3 : fcS} (h : sameR t t2) (h2 : sameR t2 t3) : sameR t t3 := fun k hk => ⟨fun j => ((h2 k hk).1 j).trans ((h k hk).1 j), (h2 k hk).2.1.trans (h k hk).2.1, fun j => ((h2 k hk).2.2.1 j).trans ((h k hk).2.2.1 j), (h2 k hk).2.2.2.trans (h k hk).2.2.2⟩
theorem sameC_tr {t t2 t3 : fcS} (h : sameC t t2) (h2 : sameC t2 t3) : sameC t t3 := fun k hk => ⟨fun j => ((h2 k hk).1 j).trans ((h k hk).1 j), (h2 k hk).2.1.trans (h k hk).2.1, fun j => ((h2 k hk).2.2.1 j).trans ((h k hk).2.2.1 j), (h2 k hk).2.2.2.trans (h k hk).2.2.2⟩
theorem IR_same {t t2 : fcS} {q C : Nat} {cv : Nat → Nat × Nat × Nat} {K : Int32} {T : Int64} (h : IR q C cv K T t) (e : sameR t t2) : IR q C cv K T t2 := by
  have e53 := (e 53 (by omega)).1
  have a54 := (e 54 (by omega)).2.1
  have a55 := (e 55 (by omega)).2.1
  have a56 := (e 56 (by omega)).2.1
  have a57 := (e 57 (by omega)).2.1
  have a58 := (e 58 (by omega)).2.1
  have a59 := (e 59 (by omega)).2.1
  have a61 := (e 61 (by omega)).2.1
  have a62 := (e 62 (by omega)).2.1
  have a63 := (e 63 (by omega)).2.1
  have j53 := (e 53 (by omega)).2.2.1
  unfold IR RB RS RC RLi RK mp at *
  rw [a54, a55, a56, a57, a58, a59, a61, a62, a63, e53, e53, e53, e53, e53, e53, e53, e53, j53]
  exact h
theorem CF_same {t t2 : fcS} (h : CF t) (e : sameC t t2) : CF t2 := by
  intro i hi
  have e1 := (e (6 + 3 * i) (by omega)).1
  have e2 := (e (6 + 3 * i + 1) (by omega)).2.1
  have e3 := (e (6 + 3 * i + 2) (by omega)).2.1
  have := h i hi
  unfold tab at this ⊢
  rw [e1, e1, e1, e1, e1, e2, e3]
  exact this
theorem CC_same {t t2 : fcS} {q C : Nat} {cv : Nat → Nat × Nat × Nat} (h : CC t q C cv) (hC : C ≤ 8) (e : sameC t t2) : CC t2 q C cv := by
  intro j hj
  have e1 := (e (21 + 4 * j) (by omega)).1
  have e2 := (e (21 + 4 * j + 1) (by omega)).2.1
  have e3 := (e (21 + 4 * j + 2) (by omega)).1
  have e4 := (e (21 + 4 * j + 3) (by omega)).2.1
  have := h j hj
  unfold CD CS CL at *
  rw [e1, e1, e1, e1, e1, e1, e1, e2, e3, e3, e3, e4]
  exact this
theorem IC_same {t t2 : fcS} {q C : Nat} {cv : Nat → Nat × Nat × Nat} {K : Int32} {T : Int64} (h : IC q C cv K T t) (hC : C ≤ 8) (e : sameC t t2) : IC q C cv K T t2 := by
  obtain ⟨h1, h2, h3⟩ := h
  refine ⟨?_, CF_same h2 e, CC_same h3 hC e⟩
  have e0 := (e 0 (by omega)).1
  have j0 := (e 0 (by omega)).2.2.1
  have e1 := (e 1 (by omega)).1
  unfold CB rp at *
  rw [e0, e0, e0, e0, j0, e1]
  exact h1
/-- class first, then reference: their answers are one -/
theorem both {q C C2 : Nat} {cv cv2 : Nat → Nat × Nat × Nat} {K K2 : Int32} {T T2 : Int64} {q2 : Nat} (hV : IV q2 C2 cv2) (hC : C2 ≤ 8) {t2 : fcS} (hR : IR q2 C2 cv2 K2 T2 t2) (hI : IC q2 C2 cv2 K2 T2 t2) : Inv t2 := ⟨q2, C2, cv2, K2, T2, hV, hI, hR⟩
theorem sameC_W {t t2 : fcS} (h : eqW t t2) : sameC t t2 := fun k hk => ⟨fun j => eqW_gi h k j, h.2.2 k (by omega), fun j => by unfold fgj; rw [h.2.1], by unfold fgl; rw [h.2.1]⟩
theorem sameC_fsi (t : fcS) (j : Nat) (v : Int32) : sameC t (fsi t 53 j v) := fun k hk => ⟨fun j => by rw [gi_fsi, if_neg (by omega)], rfl, fun _ => rfl, rfl⟩
theorem sameC_fsa (t : fcS) {r : Nat} (hr : 53 ≤ r) (i : Nat) (v : Int32) : sameC t (fsa t r i v) := fun k hk => ⟨fun j => rfl, ga_fsaN t (by omega) i v, fun _ => rfl, rfl⟩
theorem sameR_F {t t2 : fcS} {k : Nat} (h : eqF t t2 k) (hk : k + 2 < 53) : sameR t t2 := fun a ha => ⟨fun j => h.2.1 a j (by omega), h.2.2.2 a (by omega) (by omega), fun j => by unfold fgj; rw [h.1], by unfold fgl; rw [h.1]⟩
theorem tab_gi {t t2 : fcS} {q n k : Nat} {g : PS q} (h : tab t q n k g) (e1 : ∀ j, fgi t2 k j = fgi t k j) (e2 : fga t2 (k + 1) = fga t (k + 1)) (e3 : fga t2 (k + 2) = fga t (k + 2)) : tab t2 q n k g := by
  unfold tab at *
  rw [e1, e1, e1, e1, e2, e3]; exact h
theorem nI_p_inj {q q2 : Nat} (h1 : isP q) (h2 : isP q2) (h : nI (q + 1) = nI (q2 + 1)) : q = q2 := by
  have a := isP_lo h1
  have b := isP_lo h2
  have := (nI_eq (by omega) (by omega)).mp h
  omega
theorem IC_fit {t t2 : fcS} {q C i : Nat} {cv : Nat → Nat × Nat × Nat} {K : Int32} {T : Int64} (h : IC q C cv K T t) (hi : i < 5) (hC : C ≤ 8) (hq : isP q) {g : PS q} (e : eqF t t2 (6 + 3 * i)) (ht : tab t2 q (i + 1) (6 + 3 * i) g) : IC q C cv K T t2 := by
  obtain ⟨h1, h2, h3⟩ := h
  have eg : ∀ a j, a ≠ 6 + 3 * i → fgi t2 a j = fgi t a j := fun a j ha => e.2.1 a j ha
  have ea : ∀ a, a ≠ 6 + 3 * i + 1 → a ≠ 6 + 3 * i + 2 → fga t2 a = fga t a := fun a ha hb => e.2.2.2 a ha hb
  refine ⟨?_, ?_, ?_⟩
  · unfold CB rp at *
    rw [eg 0 5 (by omega), eg 0 6 (by omega), eg 0 7 (by omega), eg 0 8 (by omega), eg 1 0 (by omega), show fgj t2 0 9 = fgj t 0 9 by unfold fgj; rw [e.1]]
    exact h1
  · intro i2 hi2
    by_cases c : i2 = i
    · subst c
      refine ⟨by rw [e.2.2.1]; exact (h2 i2 hi2).1, fun q2 hf he => ?_⟩
      rw [ht.1] at he
      have := nI_p_inj hq hf.1 he
      subst this
      exact ⟨g, ht⟩
    · have := h2 i2 hi2
      refine ⟨by rw [eg _ _ (by omega)]; exact this.1, fun q2 hf he => ?_⟩
      rw [eg _ _ (by omega)] at he
      obtain ⟨g2, hg2⟩ := this.2 q2 hf he
      exact ⟨g2, tab_gi hg2 (fun j => eg _ j (by omega)) (ea _ (by omega) (by omega)) (ea _ (by omega) (by omega))⟩
  · intro j hj
    have := h3 j hj
    unfold CD CS CL at *
    rw [eg (21 + 4 * j) _ (by omega), eg (21 + 4 * j) _ (by omega), eg (21 + 4 * j) _ (by omega), eg (21 + 4 * j) _ (by omega), eg (21 + 4 * j) _ (by omega), eg (21 + 4 * j) _ (by omega), eg (21 + 4 * j) _ (by omega), ea (21 + 4 * j + 1) (by omega) (by omega), eg (21 + 4 * j + 2) _ (by omega), eg (21 + 4 * j + 2) _ (by omega), eg (21 + 4 * j + 2) _ (by omega), ea (21 + 4 * j + 3) (by omega) (by omega)]
    exact this
theorem tb_F {t t2 : fcS} {q n k k2 g : Nat} (h : tb t q n k g) (e : eqF t t2 k2) (h1 : k ≠ k2) (h2 : k + 1 ≠ k2 + 1 ∧ k + 1 ≠ k2 + 2 ∧ k + 2 ≠ k2 + 1 ∧ k + 2 ≠ k2 + 2) : tb t2 q n k g := by
  unfold tb at *
  rw [e.2.1 k _ h1, e.2.1 k _ h1, e.2.1 k _ h1, e.2.2.2 (k + 1) (by omega) (by omega), e.2.2.2 (k + 2) (by omega) (by omega)]
  exact h
/-- fieldAt: F(n), or none -/
theorem s_fieldAt {t : fcS} {q C : Nat} {cv : Nat → Nat × Nat × Nat} {K : Int32} {T : Int64} (hq : isP q) (hC : C ≤ 8) (hI : IC q C cv K T t) {x : Int32} {post : Option Nat → fcS → Prop} (h0 : (∀ n, fl q n → x ≠ nI n) → post none t) (h1 : ∀ n g t2, fl q n → x = nI n → eqF t t2 (6 + 3 * (n - 1)) → IC q C cv K T t2 → tb t2 q n (6 + 3 * (n - 1)) g → post (some (6 + 3 * (n - 1))) t2) : q_X4_fieldAt t x post := by
  obtain ⟨-, f1, f2⟩ := nfd_ok hq
  unfold q_X4_fieldAt
  rw [hI.1.2.1]
  refine ⟨fun c => h0 (fun n hn e => ?_), fun c => ⟨fun c2 => h0 (fun n hn e => ?_), fun c2 => ⟨fun c3 => ?_, fun c3 => h0 (fun n hn e => ?_)⟩⟩⟩
  · rw [e] at c
    exact absurd ((nI_ltI (b := 1) (by have := hn.2; omega) (by omega)).mp c) (by have := hn.2; omega)
  · rw [e] at c2
    exact absurd ((nI_ltI (by omega) (by have := hn.2; omega)).mp c2) (by have := hn.2; omega)
  · have hx0 : ¬ x < 0 := fun z => c (by
      rw [Int32.lt_iff_toInt_lt] at z ⊢
      have e1 : (1 : Int32).toInt = 1 := by decide
      have e0 : (0 : Int32).toInt = 0 := by decide
      omega)
    obtain ⟨n, hn, e⟩ := nI_of hx0
    subst e
    have n1 : 1 ≤ n := by
      rcases Nat.lt_or_ge n 1 with w | w
      · exact absurd (show nI n < nI 1 from nI_lt w (by omega)) c
      · exact w
    have n2 : n ≤ nfd q := by
      rcases Nat.lt_or_ge (nfd q) n with w | w
      · exact absurd (nI_lt w hn) c2
      · exact w
    have hf : fl q n := ⟨hq, n1, n2⟩
    have e1 : nI n - 1 = nI (n - 1) := by rw [show (1 : Int32) = nI 1 from rfl, pk_sub n1]
    rw [e1, nI_clamp (by omega)]
    refine ⟨vp_in_nI (by omega) (by omega), fun i1 ei => ?_⟩
    subst ei
    have hF := hI.2.1 (n - 1) (by omega)
    rw [show n - 1 + 1 = n by omega] at hF
    refine s_fit hq hI.1.1 n1 n2 (by omega) hF.1 (hF.2 q hf) (fun t2 g e2 ht => ?_)
    refine h1 n _ t2 hf rfl e2 ?_ (tb_of hf ht)
    exact IC_fit hI (i := n - 1) (by omega) hC hq e2 (g := g) (by rw [show n - 1 + 1 = n by omega]; exact ht)
  · rw [e] at c3
    exact absurd (show nI n ≤ nI 5 from nI_le (by have := hn.2; omega) (by omega)) c3
