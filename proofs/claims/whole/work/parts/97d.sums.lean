/-! counts and sums -/
theorem fil_ct (f : Nat → Bool) : ∀ n, ((List.range n).filter f).length = fb_ct f n
  | 0 => rfl
  | n + 1 => by
    rw [List.range_succ, List.filter_append, List.length_append, fil_ct f n, fb_ct_succ]
    congr 1
    by_cases c : f n = true
    · rw [List.filter_cons_of_pos c, if_pos c]; rfl
    · rw [List.filter_cons_of_neg c, if_neg c]; rfl
theorem clu_len (q : Nat) (P : PS q) (e u : Nat) : (clu q P e u).length = fb_ct (fun v => gdb q P u v) e := by
  unfold clu
  rw [List.length_map, fil_ct]
theorem fm_len {A : Type} (f : Nat → List A) : ∀ a, ((List.range a).flatMap f).length = fb_sm (fun i => (f i).length) a
  | 0 => rfl
  | a + 1 => by rw [List.range_succ, List.flatMap_append, List.flatMap_singleton, List.length_append, fm_len f a, fb_sm_succ]
theorem cld_len (q : Nat) (P : PS q) (d : Nat) : (cld q P d).length = fb_sm (fun a => fb_ct (fun v => gdb q P ((q + 1) ^ d + a) v) ((q + 1) ^ d)) ((q + 1) ^ d) := by
  unfold cld
  rw [fm_len]
  exact fb_sm_cong (fun k _ => clu_len q P _ _)
theorem cls_len (q : Nat) (P : PS q) (g : Nat) : (cls q P g).length = fb_sm (fun d => (cld q P d).length) (g + 1) := fm_len _ _
theorem dm_inj {p a b c d : Nat} (hb : b < p) (hd : d < p) (e : a * p + b = c * p + d) : a = c ∧ b = d := by
  have e1 : (a * p + b) / p = a := by rw [Nat.mul_comm, Nat.mul_add_div (by omega), Nat.div_eq_of_lt hb, Nat.add_zero]
  have e2 : (c * p + d) / p = c := by rw [Nat.mul_comm, Nat.mul_add_div (by omega), Nat.div_eq_of_lt hd, Nat.add_zero]
  have : a = c := by rw [← e1, e, e2]
  subst this
  exact ⟨rfl, by omega⟩
/-- the places with f are no more than pairs of places with f1, f2 -/
theorem ct_prod {f f1 f2 : Nat → Bool} {n n1 n2 : Nat} {g1 g2 : Nat → Nat} (h1 : ∀ v, v < n → f v = true → g1 v < n1 ∧ f1 (g1 v) = true) (h2 : ∀ v, v < n → f v = true → g2 v < n2 ∧ f2 (g2 v) = true) (hinj : ∀ v w, v < n → w < n → f v = true → f w = true → g1 v = g1 w → g2 v = g2 w → v = w) : fb_ct f n ≤ fb_ct f1 n1 * fb_ct f2 n2 := by
  have ch : ∀ k, k < fb_ct f n → ∃ i, i < n ∧ f i = true ∧ fb_ct f i = k := fun k hk => fb_ct_kth hk
  have rk : ∀ (p : Nat → Bool) (m i : Nat), i < m → p i = true → fb_ct p i < fb_ct p m := fun p m i hi hp => by
    have := fb_ct_mono p (show i + 1 ≤ m by omega)
    rw [fb_ct_succ, if_pos hp] at this
    omega
  let E : Nat → Nat := fun k => if h : k < fb_ct f n then Classical.choose (ch k h) else 0
  have hE : ∀ k, k < fb_ct f n → E k < n ∧ f (E k) = true ∧ fb_ct f (E k) = k := fun k hk => by
    show (if h : k < fb_ct f n then Classical.choose (ch k h) else 0) < n ∧ f (if h : k < fb_ct f n then Classical.choose (ch k h) else 0) = true ∧ fb_ct f (if h : k < fb_ct f n then Classical.choose (ch k h) else 0) = k
    rw [dif_pos hk]
    exact Classical.choose_spec (ch k hk)
  refine fb_holes _ _ (fun k => fb_ct f1 (g1 (E k)) * fb_ct f2 n2 + fb_ct f2 (g2 (E k))) (fun k hk => ?_) (fun i j hij hj e => ?_)
  · obtain ⟨e1, e2, -⟩ := hE k hk
    have r1 := rk f1 n1 _ (h1 _ e1 e2).1 (h1 _ e1 e2).2
    have r2 := rk f2 n2 _ (h2 _ e1 e2).1 (h2 _ e1 e2).2
    have : (fb_ct f1 (g1 (E k)) + 1) * fb_ct f2 n2 ≤ fb_ct f1 n1 * fb_ct f2 n2 := Nat.mul_le_mul_right _ r1
    rw [Nat.add_mul, Nat.one_mul] at this
    show fb_ct f1 (g1 (E k)) * fb_ct f2 n2 + fb_ct f2 (g2 (E k)) < fb_ct f1 n1 * fb_ct f2 n2
    omega
  · obtain ⟨a1, a2, a3⟩ := hE i (by omega)
    obtain ⟨b1, b2, b3⟩ := hE j hj
    have r2 := rk f2 n2 _ (h2 _ a1 a2).1 (h2 _ a1 a2).2
    have r3 := rk f2 n2 _ (h2 _ b1 b2).1 (h2 _ b1 b2).2
    obtain ⟨x1, x2⟩ := dm_inj r2 r3 e
    have y1 := fb_ct_kth_one (h1 _ a1 a2).2 (h1 _ b1 b2).2 x1
    have y2 := fb_ct_kth_one (h2 _ a1 a2).2 (h2 _ b1 b2).2 x2
    have := hinj _ _ a1 b1 a2 b2 y1 y2
    rw [this, b3] at a3
    omega
theorem ct_inj {f f1 : Nat → Bool} {n n1 : Nat} {g1 : Nat → Nat} (h1 : ∀ v, v < n → f v = true → g1 v < n1 ∧ f1 (g1 v) = true) (hinj : ∀ v w, v < n → w < n → f v = true → f w = true → g1 v = g1 w → v = w) : fb_ct f n ≤ fb_ct f1 n1 := by
  have := ct_prod (f2 := fun _ => true) (n2 := 1) (g2 := fun _ => 0) h1 (fun _ _ _ => ⟨by omega, rfl⟩) (fun v w a b c d e _ => hinj v w a b c d e)
  rw [show fb_ct (fun _ => true) 1 = 1 from rfl, Nat.mul_one] at this
  exact this
/-- no three of them: two at most -/
theorem ct_two {f : Nat → Bool} {n : Nat} (h : ∀ x y z, x < n → y < n → z < n → f x = true → f y = true → f z = true → x = y ∨ y = z ∨ x = z) : fb_ct f n ≤ 2 := by
  rcases Nat.lt_or_ge 2 (fb_ct f n) with w | w
  · exfalso
    obtain ⟨x, x1, x2, x3⟩ := fb_ct_kth (p := f) (k := 0) (n := n) (by omega)
    obtain ⟨y, y1, y2, y3⟩ := fb_ct_kth (p := f) (k := 1) (n := n) (by omega)
    obtain ⟨z, z1, z2, z3⟩ := fb_ct_kth (p := f) (k := 2) (n := n) (by omega)
    rcases h x y z x1 y1 z1 x2 y2 z2 with e | e | e
    · rw [e, y3] at x3; omega
    · rw [e, z3] at y3; omega
    · rw [e, z3] at x3; omega
  · exact w
theorem sm_sum (f : Nat → Nat) : ∀ n, fb_sm f n = ((List.range n).map f).sum
  | 0 => rfl
  | n + 1 => by
    rw [fb_sm_succ, sm_sum f n, List.range_succ, List.map_append, List.sum_append]
    simp
theorem perm_sum {l1 l2 : List Nat} (h : l1.Perm l2) : l1.sum = l2.sum := by
  induction h with
  | nil => rfl
  | cons a _ ih => rw [List.sum_cons, List.sum_cons, ih]
  | swap a b l => rw [List.sum_cons, List.sum_cons, List.sum_cons, List.sum_cons]; omega
  | trans _ _ ih1 ih2 => exact ih1.trans ih2
theorem sm_perm {n : Nat} {s : Nat → Nat} (h1 : ∀ i, i < n → s i < n) (h2 : ∀ i j, i < n → j < n → s i = s j → i = j) (f : Nat → Nat) : fb_sm (fun i => f (s i)) n = fb_sm f n := by
  rw [sm_sum, sm_sum]
  have hp : ((List.range n).map s).Perm (List.range n) := by
    refine sub_perm _ _ ?_ (fun a ha => ?_) (by rw [List.length_map]; exact Nat.le_refl _)
    · refine List.pairwise_map.mpr ?_
      have : ∀ l : List Nat, (∀ a, a ∈ l → a < n) → l.Pairwise (· < ·) → l.Pairwise (fun a b => s a ≠ s b) := by
        intro l
        induction l with
        | nil => intro _ _; exact List.Pairwise.nil
        | cons a l ih =>
          intro hl hp
          obtain ⟨p1, p2⟩ := List.pairwise_cons.mp hp
          refine List.pairwise_cons.mpr ⟨fun b hb e => ?_, ih (fun x hx => hl x (List.mem_cons_of_mem _ hx)) p2⟩
          have := h2 a b (hl a List.mem_cons_self) (hl b (List.mem_cons_of_mem _ hb)) e
          have := p1 b hb
          omega
      exact this _ (fun a ha => List.mem_range.mp ha) List.pairwise_lt_range
    · obtain ⟨b, hb, e⟩ := List.mem_map.mp ha
      rw [← e]
      exact List.mem_range.mpr (h1 b (List.mem_range.mp hb))
  have := perm_sum (hp.map f)
  rw [List.map_map] at this
  exact this
theorem sm_swp (f : Nat → Nat → Nat) (m : Nat) : ∀ n, fb_sm (fun i => fb_sm (fun j => f i j) m) n = fb_sm (fun j => fb_sm (fun i => f i j) n) m
  | 0 => by
    show 0 = fb_sm (fun _ => 0) m
    rw [fb_sm_const]; omega
  | n + 1 => by
    rw [fb_sm_succ, sm_swp f m n, ← fb_sm_add]
    rfl
theorem sm_mulL (c : Nat) (f : Nat → Nat) : ∀ n, fb_sm (fun i => c * f i) n = c * fb_sm f n
  | 0 => rfl
  | n + 1 => by rw [fb_sm_succ, sm_mulL c f n, fb_sm_succ, Nat.mul_add]
theorem sm_blk (f : Nat → Nat) (p : Nat) : ∀ m, fb_sm f (m * p) = fb_sm (fun i => fb_sm (fun j => f (i * p + j)) p) m
  | 0 => by rw [Nat.zero_mul]; rfl
  | m + 1 => by
    rw [Nat.succ_mul, fb_sm_split, sm_blk f p m, fb_sm_succ]
theorem sm_one {f : Nat → Nat} {i : Nat} : ∀ {n : Nat}, i < n → (∀ k, k < n → k ≠ i → f k = 0) → fb_sm f n = f i
  | 0, h, _ => by omega
  | n + 1, h, hz => by
    rw [fb_sm_succ]
    by_cases c : i = n
    · subst c
      have : fb_sm f i = fb_sm (fun _ => 0) i := fb_sm_cong (fun k hk => hz k (by omega) (by omega))
      rw [this, fb_sm_const, Nat.mul_zero, Nat.zero_add]
    · rw [sm_one (by omega) (fun k hk hki => hz k (by omega) hki), hz n (by omega) (fun z => c z.symm), Nat.add_zero]
/-! sums over F(1) -/
def sF {q : Nat} (f : Fin (q + 1) → Nat) : Nat := fb_sm (fun k => f (Fin.ofNat (q + 1) k)) (q + 1)
theorem fo_self {q : Nat} (a : Fin (q + 1)) : Fin.ofNat (q + 1) a.val = a := Fin.ext (Nat.mod_eq_of_lt a.isLt)
theorem sF_cong {q : Nat} {f g : Fin (q + 1) → Nat} (h : ∀ a, f a = g a) : sF f = sF g := by
  have : f = g := funext h
  rw [this]
theorem sF_le {q : Nat} {f g : Fin (q + 1) → Nat} (h : ∀ a, f a ≤ g a) : sF f ≤ sF g := fb_sm_le (fun _ _ => h _)
theorem sF_add {q : Nat} (f g : Fin (q + 1) → Nat) : sF (fun a => f a + g a) = sF f + sF g := fb_sm_add _ _ _
theorem sF_mulL {q : Nat} (c : Nat) (f : Fin (q + 1) → Nat) : sF (fun a => c * f a) = c * sF f := sm_mulL c _ _
theorem sF_mulR {q : Nat} (c : Nat) (f : Fin (q + 1) → Nat) : sF (fun a => f a * c) = sF f * c := by
  rw [Nat.mul_comm, ← sF_mulL]
  exact sF_cong (fun a => Nat.mul_comm _ _)
theorem sF_swp {q : Nat} (f : Fin (q + 1) → Fin (q + 1) → Nat) : sF (fun a => sF (fun b => f a b)) = sF (fun b => sF (fun a => f a b)) := sm_swp (fun i j => f (Fin.ofNat (q + 1) i) (Fin.ofNat (q + 1) j)) _ _
theorem sF_perm {q : Nat} {s : Fin (q + 1) → Fin (q + 1)} (hs : ∀ a b, s a = s b → a = b) (f : Fin (q + 1) → Nat) : sF (fun a => f (s a)) = sF f := by
  have := sm_perm (n := q + 1) (s := fun i => (s (Fin.ofNat (q + 1) i)).val) (fun i hi => (s (Fin.ofNat (q + 1) i)).isLt) (fun i j hi hj e => by
    have := congrArg Fin.val (hs _ _ (Fin.ext e))
    rw [fo_val, fo_val, Nat.mod_eq_of_lt hi, Nat.mod_eq_of_lt hj] at this
    exact this) (fun k => f (Fin.ofNat (q + 1) k))
  unfold sF
  rw [← this]
  refine fb_sm_cong (fun k hk => ?_)
  show f (s (Fin.ofNat (q + 1) k)) = f (Fin.ofNat (q + 1) (s (Fin.ofNat (q + 1) k)).val)
  rw [fo_self]
theorem sF_one {q : Nat} {f : Fin (q + 1) → Nat} (a : Fin (q + 1)) (h : ∀ b, b ≠ a → f b = 0) : sF f = f a := by
  unfold sF
  rw [sm_one (i := a.val) a.isLt (fun k hk hka => h _ (fun z => hka ?_)), fo_self]
  rw [← z, fo_val, Nat.mod_eq_of_lt hk]
theorem sF_bd {q c : Nat} {f : Fin (q + 1) → Nat} (h : ∀ a, f a ≤ c) : sF f ≤ (q + 1) * c := fb_sm_bound (fun _ _ => h _)
/-- how many roots -/
def nr {q : Nat} (c : Fin (q + 1)) : Nat := fb_ct (fun s => decide (Fin.ofNat (q + 1) s * Fin.ofNat (q + 1) s = c)) (q + 1)
theorem nr_pos {q : Nat} (s : Fin (q + 1)) : 0 < nr (s * s) := fb_ct_pos.mpr ⟨s.val, s.isLt, by rw [fo_self]; exact decide_eq_true rfl⟩
theorem nr_ex {q : Nat} {c : Fin (q + 1)} (h : 0 < nr c) : ∃ s, s * s = c := by
  obtain ⟨k, -, e⟩ := fb_ct_pos.mp h
  exact ⟨_, of_decide_eq_true e⟩
theorem nr_tab {q : Nat} (hq : isP q) : (∀ c : Fin (q + 1), nr c ≤ 2 ∧ (c ≠ 0 → nr c = 0 ∨ nr c = 2) ∧ (c = 0 → nr c = 1)) ∧ sF (fun D : Fin (q + 1) => if nr D = 0 then 1 else 0) ≤ q / 2 ∧ ∃ hf : Fin (q + 1), hf + hf = 1 := by
  rcases hq with z | z | z | z | z <;> subst z <;> decide +kernel
