/-! finite groups -/
def gm {G : Type} (op : G → G → G) (e x : G) : Nat → G
  | 0 => e
  | n + 1 => op (gm op e x n) x
theorem gm_s {G : Type} (op : G → G → G) (e x : G) (n : Nat) : gm op e x (n + 1) = op (gm op e x n) x := rfl
theorem gm_add {G : Type} {op : G → G → G} {e : G} (h : isGr op e) (x : G) (m : Nat) : ∀ n, gm op e x (m + n) = op (gm op e x m) (gm op e x n)
  | 0 => (h.2.2.1 _).symm
  | n + 1 => by rw [← Nat.add_assoc, gm_s, gm_s, gm_add h x m n, h.1]
theorem gm_1 {G : Type} {op : G → G → G} {e : G} (h : isGr op e) (x : G) : gm op e x 1 = x := by
  rw [gm_s]
  show op e x = x
  rw [h.2.1, h.2.2.1]
theorem gr_can {G : Type} {op : G → G → G} {e : G} (h : isGr op e) {a b c : G} (e1 : op c a = op c b) : a = b := by
  obtain ⟨d, hd⟩ := h.2.2.2 c
  have k : ∀ y, op d (op c y) = y := fun y => by rw [← h.1, h.2.1 d c, hd, h.2.1, h.2.2.1]
  rw [← k a, e1, k]
theorem gm_mul {G : Type} {op : G → G → G} {e : G} (h : isGr op e) {x : G} {o : Nat} (ho : gm op e x o = e) : ∀ k, gm op e x (o * k) = e
  | 0 => rfl
  | k + 1 => by rw [Nat.mul_succ, gm_add h, gm_mul h ho k, ho, h.2.2.1]
theorem sub_perm {G : Type} : ∀ (l1 l2 : List G), l1.Nodup → (∀ a, a ∈ l1 → a ∈ l2) → l2.length ≤ l1.length → l1.Perm l2
  | [], l2, _, _, h => by
    have : l2 = [] := List.length_eq_zero_iff.mp (by have : ([] : List G).length = 0 := rfl; omega)
    rw [this]
  | a :: l1, l2, hn, hs, h => by
    haveI : DecidableEq G := fun a b => Classical.propDecidable _
    have ha : a ∈ l2 := hs a (List.mem_cons_self)
    have hp := List.perm_cons_erase ha
    have hn' := List.nodup_cons.mp hn
    refine List.Perm.trans (List.Perm.cons a (sub_perm l1 (l2.erase a) hn'.2 (fun b hb => ?_) ?_)) hp.symm
    · have hne : b ≠ a := fun z => hn'.1 (z ▸ hb)
      exact (List.mem_erase_of_ne hne).mpr (hs b (List.mem_cons_of_mem _ hb))
    · rw [List.length_erase_of_mem ha]
      have : (a :: l1).length = l1.length + 1 := rfl
      omega
def gfd {G : Type} (op : G → G → G) (e : G) : List G → G
  | [] => e
  | a :: l => op a (gfd op e l)
theorem gfd_perm {G : Type} {op : G → G → G} {e : G} (h : isGr op e) {l1 l2 : List G} (hp : l1.Perm l2) : gfd op e l1 = gfd op e l2 := by
  induction hp with
  | nil => rfl
  | cons a _ ih => show op a _ = op a _; rw [ih]
  | swap a b l => show op b (op a _) = op a (op b _); rw [← h.1, ← h.1, h.2.1 b a]
  | trans _ _ ih1 ih2 => exact ih1.trans ih2
theorem gfd_map {G : Type} {op : G → G → G} {e : G} (h : isGr op e) (x : G) : ∀ l : List G, gfd op e (l.map (op x)) = op (gm op e x l.length) (gfd op e l)
  | [] => (h.2.2.1 e).symm
  | a :: l => by
    show op (op x a) (gfd op e (l.map (op x))) = op (op (gm op e x l.length) x) (op a (gfd op e l))
    rw [gfd_map h x l]
    generalize gm op e x l.length = y
    generalize gfd op e l = z
    rw [h.1 x a, ← h.1 a y z, h.2.1 a y, h.1 y a z, ← h.1 x y, h.2.1 x y]
theorem nodup_map {G H : Type} {f : G → H} (hf : ∀ a b, f a = f b → a = b) : ∀ {l : List G}, l.Nodup → (l.map f).Nodup
  | [], _ => List.nodup_nil
  | a :: l, h => by
    have h' := List.nodup_cons.mp h
    refine List.nodup_cons.mpr ⟨fun z => ?_, nodup_map hf h'.2⟩
    obtain ⟨b, hb, e⟩ := List.mem_map.mp z
    exact h'.1 (hf _ _ e ▸ hb)
theorem lagr {G : Type} {op : G → G → G} {e : G} (h : isGr op e) {l : List G} (hn : l.Nodup) (hl : ∀ a, a ∈ l) (x : G) : gm op e x l.length = e := by
  have hp : (l.map (op x)).Perm l := sub_perm _ _ (nodup_map (fun a b e1 => gr_can h e1) hn) (fun a _ => hl a) (by rw [List.length_map]; exact Nat.le_refl _)
  have e1 := gfd_perm h hp
  rw [gfd_map h] at e1
  refine gr_can h (c := gfd op e l) ?_
  rw [h.2.1, e1, h.2.2.1]
/-- the order of x -/
theorem ord_ex {G : Type} {op : G → G → G} {e : G} (h : isGr op e) {x : G} {N : Nat} (hN : 1 ≤ N) (he : gm op e x N = e) : ∃ o, 1 ≤ o ∧ gm op e x o = e ∧ (∀ j, 1 ≤ j → j < o → gm op e x j ≠ e) ∧ ∀ n, gm op e x n = e ↔ o ∣ n := by
  haveI : DecidablePred (fun n => 1 ≤ n ∧ gm op e x n = e) := fun n => Classical.propDecidable _
  have key : ∀ k n, n ≤ k → 1 ≤ n → gm op e x n = e → ∃ o, 1 ≤ o ∧ gm op e x o = e ∧ ∀ j, 1 ≤ j → j < o → gm op e x j ≠ e := by
    intro k
    induction k with
    | zero => intro n h1 h2 _; omega
    | succ k ih =>
      intro n h1 h2 h3
      by_cases c : ∃ j, 1 ≤ j ∧ j < n ∧ gm op e x j = e
      · obtain ⟨j, j1, j2, j3⟩ := c
        exact ih j (by omega) j1 j3
      · exact ⟨n, h2, h3, fun j j1 j2 j3 => c ⟨j, j1, j2, j3⟩⟩
  obtain ⟨o, o1, o2, o3⟩ := key N N (Nat.le_refl _) hN he
  refine ⟨o, o1, o2, o3, fun n => ⟨fun hn => ?_, fun ⟨k, hk⟩ => by rw [hk]; exact gm_mul h o2 k⟩⟩
  have e1 : gm op e x (n % o) = e := by
    have e2 : gm op e x (o * (n / o) + n % o) = e := by rw [Nat.div_add_mod]; exact hn
    rw [gm_add h, gm_mul h o2, h.2.1, h.2.2.1] at e2
    exact e2
  rcases Nat.eq_zero_or_pos (n % o) with z | z
  · exact Nat.dvd_of_mod_eq_zero z
  · exact absurd e1 (o3 _ z (Nat.mod_lt _ o1))
/-! the list of the classes -/
theorem cls_mem {q g : Nat} {P : PS q} {a b : Nat} : (a, b) ∈ cls q P g ↔ ∃ d, d ≤ g ∧ (q + 1) ^ d ≤ a ∧ a < 2 * (q + 1) ^ d ∧ b < (q + 1) ^ d ∧ gd q P a b := by
  unfold cls cld clu
  rw [List.mem_flatMap]
  constructor
  · rintro ⟨d, hd, h⟩
    obtain ⟨c, hc, h⟩ := List.mem_flatMap.mp h
    obtain ⟨v, hv, e⟩ := List.mem_map.mp h
    obtain ⟨hv1, hv2⟩ := List.mem_filter.mp hv
    rw [List.mem_range] at hd hc hv1
    obtain ⟨rfl, rfl⟩ := Prod.mk.injEq _ _ _ _ ▸ e
    exact ⟨d, by omega, by omega, by omega, hv1, by simpa [gdb] using hv2⟩
  · rintro ⟨d, hd, h1, h2, h3, h4⟩
    refine ⟨d, List.mem_range.mpr (by omega), List.mem_flatMap.mpr ⟨a - (q + 1) ^ d, List.mem_range.mpr (by omega), List.mem_map.mpr ⟨b, List.mem_filter.mpr ⟨List.mem_range.mpr h3, by rw [Nat.add_sub_cancel' h1]; simpa [gdb] using h4⟩, ?_⟩⟩⟩
    rw [Nat.add_sub_cancel' h1]
theorem gd_iff {q d a b : Nat} (hq : isP q) {P : PS q} (hP : isPol P) (h1 : (q + 1) ^ d ≤ a) (h2 : a < 2 * (q + 1) ^ d) (hb : b < (q + 1) ^ d) : gd q P a b ↔ ∃ m, isPol m ∧ psub P (pl_mul (pn q b) (pn q b)) = pl_mul (pn q a) m := by
  obtain ⟨m1, m2⟩ := pn_mon hq h1 h2
  have a0 := mon_ne hq m2
  have ib : isPol (pn q b) := ⟨_, pn_dl hb⟩
  have iS : isPol (psub P (pl_mul (pn q b) (pn q b))) := ip_sub hP (ip_mul ib ib)
  unfold gd
  constructor
  · intro h
    obtain ⟨e1, i1, -⟩ := dv hq iS ⟨_, m1⟩ a0
    rw [h, padd_z] at e1
    exact ⟨_, i1, e1.trans (pl_mul_comm _ _)⟩
  · rintro ⟨m, im, e⟩
    rw [e, pl_mul_comm]
    exact (pquo_mul hq im ⟨_, m1⟩ a0).2
theorem cls_C {q g a b : Nat} {P : PS q} (hq : isP q) (hP : isPol P) (h : (a, b) ∈ cls q P g) : isC P g (pn q a, pn q b) := by
  obtain ⟨d, h1, h2, h3, h4, h5⟩ := cls_mem.mp h
  obtain ⟨m1, m2⟩ := pn_mon hq h2 h3
  exact ⟨d, h1, m1, m2, pn_dl h4, (gd_iff hq hP h2 h3 h4).mp h5⟩
/-- a class has its place in the list -/
theorem C_cls {q g : Nat} {P : PS q} (hq : isP q) (hP : isPol P) {x : PS q × PS q} (h : isC P g x) : ∃ a b, (a, b) ∈ cls q P g ∧ pn q a = x.1 ∧ pn q b = x.2 ∧ a < 2 * (q + 1) ^ g ∧ b < (q + 1) ^ g := by
  have hl := isP_lo hq
  obtain ⟨d, h1, h2, h3, h4, h5⟩ := h
  have ea : pn q (nu q (d + 1) x.1) = x.1 := pn_nu h2
  have eb : pn q (nu q d x.2) = x.2 := pn_nu h4
  have e1 := nu_succ d x.1
  rw [h3] at e1
  have hv1 : ((1 : Fin (q + 1)) : Nat) = 1 := by
    show 1 % (q + 1) = 1
    exact Nat.mod_eq_of_lt (by omega)
  rw [hv1, Nat.one_mul] at e1
  have e2 := nu_lt (q := q) d x.1
  have e3 := nu_lt (q := q) d x.2
  have hpw : (q + 1) ^ d ≤ (q + 1) ^ g := Nat.pow_le_pow_right (by omega) h1
  refine ⟨nu q (d + 1) x.1, nu q d x.2, cls_mem.mpr ⟨d, h1, by omega, by omega, e3, ?_⟩, ea, eb, by omega, by omega⟩
  rw [gd_iff hq hP (by omega : (q + 1) ^ d ≤ _) (by omega) e3, ea, eb]
  exact h5
theorem pair_lt {q g : Nat} {P : PS q} {a b : Nat} (hq : isP q) (h : (a, b) ∈ cls q P g) : a < 2 * (q + 1) ^ g ∧ b < (q + 1) ^ g := by
  have hl := isP_lo hq
  obtain ⟨d, h1, h2, h3, h4, h5⟩ := cls_mem.mp h
  have hpw : (q + 1) ^ d ≤ (q + 1) ^ g := Nat.pow_le_pow_right (by omega) h1
  omega
theorem cls_nodup {q g : Nat} (hq : isP q) (P : PS q) : (cls q P g).Nodup := by
  have hl := isP_lo hq
  have hpos : ∀ d, 0 < (q + 1) ^ d := fun d => Nat.pow_pos (by omega)
  unfold cls
  refine List.pairwise_flatMap.mpr ⟨fun d hd => ?_, ?_⟩
  · unfold cld
    refine List.pairwise_flatMap.mpr ⟨fun a ha => ?_, ?_⟩
    · unfold clu
      refine List.pairwise_map.mpr ?_
      refine List.Pairwise.imp ?_ (List.Pairwise.filter _ List.pairwise_lt_range)
      intro x y hxy z
      have := congrArg Prod.snd z
      simp only at this
      omega
    · refine List.Pairwise.imp ?_ List.pairwise_lt_range
      intro a b hab x hx y hy e
      unfold clu at hx hy
      obtain ⟨v, -, rfl⟩ := List.mem_map.mp hx
      obtain ⟨v', -, rfl⟩ := List.mem_map.mp hy
      have := congrArg Prod.fst e
      simp only at this
      omega
  · refine List.Pairwise.imp ?_ List.pairwise_lt_range
    intro d d' hdd x hx y hy e
    unfold cld clu at hx hy
    obtain ⟨a, ha, hx⟩ := List.mem_flatMap.mp hx
    obtain ⟨a', ha', hy⟩ := List.mem_flatMap.mp hy
    obtain ⟨v, -, rfl⟩ := List.mem_map.mp hx
    obtain ⟨v', -, rfl⟩ := List.mem_map.mp hy
    rw [List.mem_range] at ha ha'
    have := congrArg Prod.fst e
    simp only at this
    have h2 : (q + 1) ^ (d + 1) ≤ (q + 1) ^ d' := Nat.pow_le_pow_right (by omega) (by omega)
    have h3 : (q + 1) ^ (d + 1) = (q + 1) ^ d * (q + 1) := Nat.pow_succ _ _
    have h4 : (q + 1) ^ d * 2 ≤ (q + 1) ^ d * (q + 1) := Nat.mul_le_mul_left _ (by omega)
    omega
/-- all of the group, in the list's order -/
theorem cls_lagr {q d g : Nat} {P : PS q} (h : cvO P d g) (x : GC P g) : gm (gop h) (gen h) x (cls q P g).length = gen h := by
  have hq := h.1
  have hP : isPol P := ⟨_, h.2.1⟩
  let F : {y // y ∈ cls q P g} → GC P g := fun y => ⟨(pn q y.1.1, pn q y.1.2), cls_C hq hP y.2⟩
  have hF : ∀ a b, F a = F b → a = b := fun ⟨⟨a1, a2⟩, ha⟩ ⟨⟨b1, b2⟩, hb⟩ e => by
    have e1 : (pn q a1, pn q a2) = (pn q b1, pn q b2) := congrArg Subtype.val e
    have e2 : pn q a1 = pn q b1 := congrArg Prod.fst e1
    have e3 : pn q a2 = pn q b2 := congrArg Prod.snd e1
    have l1 := pair_lt hq ha
    have l2 := pair_lt hq hb
    have hl := isP_lo hq
    have hs : (q + 1) ^ (g + 1) = (q + 1) ^ g * (q + 1) := Nat.pow_succ _ _
    have h4 : (q + 1) ^ g * 2 ≤ (q + 1) ^ g * (q + 1) := Nat.mul_le_mul_left _ (by omega)
    have k1 := pn_inj (n := g + 1) (by omega) (by omega) e2
    have k2 := pn_inj (n := g + 1) (by omega) (by omega) e3
    subst k1 k2
    rfl
  have hn : ((cls q P g).attach.map F).Nodup := by
    refine nodup_map hF ?_
    have := cls_nodup (g := g) hq P
    rw [← List.attach_map_subtype_val (cls q P g)] at this
    exact List.Pairwise.imp (fun h1 h2 => h1 (congrArg Subtype.val h2)) (List.pairwise_map.mp this)
  have hl : ∀ a, a ∈ (cls q P g).attach.map F := fun a => by
    obtain ⟨a1, b1, hm, e1, e2, -⟩ := C_cls hq hP a.2
    refine List.mem_map.mpr ⟨⟨(a1, b1), hm⟩, List.mem_attach _ _, Subtype.ext ?_⟩
    show (pn q a1, pn q b1) = a.1
    rw [e1, e2]
  have := lagr (g_gr h) hn hl x
  rw [List.length_map, List.length_attach] at this
  exact this
