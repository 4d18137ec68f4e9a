/-! ideals of A[y], y y = f, as predicates of pairs -/
/-- sums of products of two -/
def prd {A : Type} [Lean.Grind.CommRing A] (f : A) (I J : A → A → Prop) : A → A → Prop := fun a b => ∀ S : A → A → Prop, (∀ a b c e, S a b → S c e → S (a + c) (b + e)) → (∀ a b c e, I a b → J c e → S (a * c + b * e * f) (a * e + b * c)) → S a b
/-- all multiples by x + y .. -/
def iscl {A : Type} [Lean.Grind.CommRing A] (f x y : A) (I : A → A → Prop) : A → A → Prop := fun a b => ∃ c e, I c e ∧ a = x * c + y * e * f ∧ b = x * e + y * c
def isI {A : Type} [Lean.Grind.CommRing A] (f : A) (I : A → A → Prop) : Prop := (∀ a b c e, I a b → I c e → I (a + c) (b + e)) ∧ ∀ a b c e, I a b → I (a * c + b * e * f) (a * e + b * c)
def unt {A : Type} : A → A → Prop := fun _ _ => True
def idl {A : Type} [Lean.Grind.CommRing A] (u v : A) : A → A → Prop := fun a b => ∃ s, a + b * v = u * s
theorem id_ext {A : Type} {I J : A → A → Prop} (h1 : ∀ a b, I a b → J a b) (h2 : ∀ a b, J a b → I a b) : I = J := by
  funext a b
  exact propext ⟨h1 a b, h2 a b⟩
theorem id_cg {A : Type} {I : A → A → Prop} {a b c e : A} (h : I a b) (h1 : c = a) (h2 : e = b) : I c e := by
  rw [h1, h2]; exact h
theorem prd_in {A : Type} [Lean.Grind.CommRing A] {f : A} {I J : A → A → Prop} {a b c e : A} (h1 : I a b) (h2 : J c e) : prd f I J (a * c + b * e * f) (a * e + b * c) := fun _ _ h => h a b c e h1 h2
theorem prd_add {A : Type} [Lean.Grind.CommRing A] {f : A} {I J : A → A → Prop} {a b c e : A} (h1 : prd f I J a b) (h2 : prd f I J c e) : prd f I J (a + c) (b + e) := fun S x y => x a b c e (h1 S x y) (h2 S x y)
theorem prd_mono {A : Type} [Lean.Grind.CommRing A] {f : A} {I J I' J' : A → A → Prop} (h1 : ∀ a b, I a b → I' a b) (h2 : ∀ a b, J a b → J' a b) : ∀ a b, prd f I J a b → prd f I' J' a b := fun _ _ h S x y => h S x (fun a b c e i j => y a b c e (h1 a b i) (h2 c e j))
theorem prd_commS {A : Type} [Lean.Grind.CommRing A] {f : A} {I J : A → A → Prop} : ∀ a b, prd f I J a b → prd f J I a b := fun _ _ h S x y => h S x (fun a b c e i j => id_cg (y c e a b j i) (by grind) (by grind))
theorem prd_comm {A : Type} [Lean.Grind.CommRing A] (f : A) (I J : A → A → Prop) : prd f I J = prd f J I := id_ext prd_commS prd_commS
theorem prd_assocS {A : Type} [Lean.Grind.CommRing A] {f : A} {I J K : A → A → Prop} : ∀ a b, prd f (prd f I J) K a b → prd f I (prd f J K) a b := fun _ _ h => h _ (fun _ _ _ _ => prd_add) (fun a b c e m k =>
  m (fun a b => prd f I (prd f J K) (a * c + b * e * f) (a * e + b * c)) (fun a b a' b' h1 h2 => id_cg (prd_add h1 h2) (by grind) (by grind)) (fun i1 i2 j1 j2 hi hj => id_cg (prd_in hi (prd_in (f := f) hj k)) (by grind) (by grind)))
theorem prd_assoc {A : Type} [Lean.Grind.CommRing A] (f : A) (I J K : A → A → Prop) : prd f (prd f I J) K = prd f I (prd f J K) := by
  refine id_ext prd_assocS (fun a b h => ?_)
  rw [prd_comm f I, prd_comm f J] at h
  have := prd_assocS a b h
  rw [prd_comm f K, prd_comm f J] at this
  exact this
theorem prd_isI {A : Type} [Lean.Grind.CommRing A] {f : A} {I J : A → A → Prop} (h : isI f I) : isI f (prd f I J) :=
  ⟨fun _ _ _ _ => prd_add, fun _ _ c e m => m (fun a b => prd f I J (a * c + b * e * f) (a * e + b * c)) (fun a b a' b' h1 h2 => id_cg (prd_add h1 h2) (by grind) (by grind)) (fun i1 i2 j1 j2 hi hj => id_cg (prd_in (f := f) (h.2 i1 i2 c e hi) hj) (by grind) (by grind))⟩
theorem prd_unt {A : Type} [Lean.Grind.CommRing A] {f : A} {I : A → A → Prop} (h : isI f I) : prd f I unt = I :=
  id_ext (fun _ _ m => m I h.1 (fun a b c e i _ => h.2 a b c e i)) (fun a b i => id_cg (prd_in (f := f) (c := 1) (e := 0) i (show unt 1 0 from trivial)) (by grind) (by grind))
theorem unt_isI {A : Type} [Lean.Grind.CommRing A] (f : A) : isI f (unt : A → A → Prop) := ⟨fun _ _ _ _ _ _ => trivial, fun _ _ _ _ _ => trivial⟩
theorem iscl_prd {A : Type} [Lean.Grind.CommRing A] (f x y : A) (I J : A → A → Prop) : iscl f x y (prd f I J) = prd f (iscl f x y I) J := by
  refine id_ext (fun a b ⟨c, e, m, h1, h2⟩ => ?_) (fun a b m => ?_)
  · have := m (fun c e => prd f (iscl f x y I) J (x * c + y * e * f) (x * e + y * c)) (fun a b a' b' h1 h2 => id_cg (prd_add h1 h2) (by grind) (by grind)) (fun i1 i2 j1 j2 hi hj => id_cg (prd_in (f := f) (I := iscl f x y I) ⟨i1, i2, hi, rfl, rfl⟩ hj) (by grind) (by grind))
    exact id_cg this h1 h2
  · refine m (iscl f x y (prd f I J)) (fun a b a' b' ⟨c, e, m1, h1, h2⟩ ⟨c', e', m1', h1', h2'⟩ => ⟨c + c', e + e', prd_add m1 m1', by grind, by grind⟩) (fun a b j1 j2 ⟨c, e, hi, h1, h2⟩ hj => ⟨_, _, prd_in hi hj, by grind, by grind⟩)
theorem iscl_iscl {A : Type} [Lean.Grind.CommRing A] (f x y x' y' : A) (I : A → A → Prop) : iscl f x y (iscl f x' y' I) = iscl f (x * x' + y * y' * f) (x * y' + y * x') I := by
  refine id_ext (fun a b ⟨c, e, ⟨c', e', hi, h1, h2⟩, h3, h4⟩ => ⟨c', e', hi, by grind, by grind⟩) (fun a b ⟨c, e, hi, h1, h2⟩ => ⟨_, _, ⟨c, e, hi, rfl, rfl⟩, by grind, by grind⟩)
theorem iscl_cg {A : Type} [Lean.Grind.CommRing A] {f x y x' y' : A} {I : A → A → Prop} (h1 : x = x') (h2 : y = y') : iscl f x y I = iscl f x' y' I := by rw [h1, h2]
/-- no divisors of 0 -/
def dmn {A : Type} [Lean.Grind.CommRing A] (f : A) : Prop := (∀ a b : A, a * b = 0 → a = 0 ∨ b = 0) ∧ (∀ a b : A, a * a = b * b * f → a = 0 ∧ b = 0) ∧ (1 : A) ≠ 0
def nzp {A : Type} [Lean.Grind.CommRing A] (x y : A) : Prop := ¬ (x = 0 ∧ y = 0)
theorem d_can {A : Type} [Lean.Grind.CommRing A] {f x y c e c' e' : A} (hd : dmn f) (hn : nzp x y) (h1 : x * c + y * e * f = x * c' + y * e' * f) (h2 : x * e + y * c = x * e' + y * c') : c = c' ∧ e = e' := by
  have hN : x * x - y * y * f ≠ 0 := fun z => hn (hd.2.1 x y (by grind))
  have e1 : (x * x - y * y * f) * (c - c') = 0 := by grind
  have e2 : (x * x - y * y * f) * (e - e') = 0 := by grind
  refine ⟨?_, ?_⟩
  · rcases hd.1 _ _ e1 with z | z
    · exact absurd z hN
    · grind
  · rcases hd.1 _ _ e2 with z | z
    · exact absurd z hN
    · grind
theorem nzp_mul {A : Type} [Lean.Grind.CommRing A] {f x y z w : A} (hd : dmn f) (h1 : nzp x y) (h2 : nzp z w) : nzp (x * z + y * w * f) (x * w + y * z) := fun ⟨e1, e2⟩ => h2 (d_can (c' := 0) (e' := 0) hd h1 (by grind) (by grind))
theorem iscl_can {A : Type} [Lean.Grind.CommRing A] {f x y : A} {I J : A → A → Prop} (hd : dmn f) (hn : nzp x y) (h : ∀ a b, iscl f x y I a b → iscl f x y J a b) : ∀ a b, I a b → J a b := fun a b hi => by
  obtain ⟨c, e, hj, h1, h2⟩ := h _ _ ⟨a, b, hi, rfl, rfl⟩
  obtain ⟨e1, e2⟩ := d_can hd hn h1 h2
  rw [e1, e2]; exact hj
theorem iscl_inj {A : Type} [Lean.Grind.CommRing A] {f x y : A} {I J : A → A → Prop} (hd : dmn f) (hn : nzp x y) (h : iscl f x y I = iscl f x y J) : I = J := id_ext (iscl_can hd hn (fun a b m => h ▸ m)) (iscl_can hd hn (fun a b m => h ▸ m))
def eqv {A : Type} [Lean.Grind.CommRing A] (f : A) (I J : A → A → Prop) : Prop := ∃ x y z w, nzp x y ∧ nzp z w ∧ iscl f x y I = iscl f z w J
theorem nzp_one {A : Type} [Lean.Grind.CommRing A] {f : A} (hd : dmn f) : nzp (1 : A) 0 := fun h => hd.2.2 h.1
theorem eqv_rfl {A : Type} [Lean.Grind.CommRing A] {f : A} (hd : dmn f) {I J : A → A → Prop} (h : I = J) : eqv f I J := ⟨1, 0, 1, 0, nzp_one hd, nzp_one hd, by rw [h]⟩
theorem eqv_sym {A : Type} [Lean.Grind.CommRing A] {f : A} {I J : A → A → Prop} (h : eqv f I J) : eqv f J I := by
  obtain ⟨x, y, z, w, h1, h2, e⟩ := h
  exact ⟨z, w, x, y, h2, h1, e.symm⟩
theorem eqv_tr {A : Type} [Lean.Grind.CommRing A] {f : A} (hd : dmn f) {I J K : A → A → Prop} (h : eqv f I J) (h' : eqv f J K) : eqv f I K := by
  obtain ⟨x, y, z, w, h1, h2, e⟩ := h
  obtain ⟨x', y', z', w', h1', h2', e'⟩ := h'
  refine ⟨_, _, _, _, nzp_mul hd h1' h1, nzp_mul hd h2 h2', ?_⟩
  rw [← iscl_iscl, ← iscl_iscl, e, ← e', iscl_iscl, iscl_iscl]
  exact iscl_cg (by grind) (by grind)
theorem eqv_prd {A : Type} [Lean.Grind.CommRing A] {f : A} {I I' : A → A → Prop} (h : eqv f I I') (J : A → A → Prop) : eqv f (prd f I J) (prd f I' J) := by
  obtain ⟨x, y, z, w, h1, h2, e⟩ := h
  exact ⟨x, y, z, w, h1, h2, by rw [iscl_prd, iscl_prd, e]⟩
theorem eqv_prd2 {A : Type} [Lean.Grind.CommRing A] {f : A} (hd : dmn f) {I I' J J' : A → A → Prop} (h : eqv f I I') (h' : eqv f J J') : eqv f (prd f I J) (prd f I' J') := by
  have h2 := eqv_prd h' I'
  rw [prd_comm f J, prd_comm f J'] at h2
  exact eqv_tr hd (eqv_prd h J) h2
theorem eqv_scl {A : Type} [Lean.Grind.CommRing A] {f x y : A} (hd : dmn f) (hn : nzp x y) (I : A → A → Prop) : eqv f (iscl f x y I) I := ⟨1, 0, x, y, nzp_one hd, hn, by rw [iscl_iscl]; exact iscl_cg (by grind) (by grind)⟩
theorem idl_isI {A : Type} [Lean.Grind.CommRing A] {f u v m : A} (h : f - v * v = u * m) : isI f (idl u v) :=
  ⟨fun a b c e ⟨s, h1⟩ ⟨s', h2⟩ => ⟨s + s', by grind⟩, fun a b c e ⟨s, h1⟩ => ⟨c * s + e * b * m + e * v * s, by grind⟩⟩
/-- beside it its other one: u -/
theorem inv_idl {A : Type} [Lean.Grind.CommRing A] {f u v m x y z : A} (h : f - v * v = u * m) (hb : x * u + y * (v + v) + z * m = 1) : prd f (idl u v) (idl u (-v)) = iscl f u 0 unt := by
  have hI : isI f (prd f (idl u v) (idl u (-v))) := prd_isI (idl_isI h)
  refine id_ext (fun a b m' => m' _ ?_ ?_) (fun a b ⟨c, e, _, h1, h2⟩ => ?_)
  · rintro a b c e ⟨a1, a2, -, h1, h2⟩ ⟨b1, b2, -, h3, h4⟩
    exact ⟨a1 + b1, a2 + b2, trivial, by grind, by grind⟩
  · rintro a b c e ⟨s, h1⟩ ⟨s', h2⟩
    exact ⟨s * c + b * e * m - b * v * s', s * e + b * s', trivial, by grind, by grind⟩
  · have k1 : prd f (idl u v) (idl u (-v)) (u * u) 0 := id_cg (prd_in (f := f) (a := u) (b := 0) (c := u) (e := 0) ⟨1, by grind⟩ ⟨1, by grind⟩) (by grind) (by grind)
    have k2 : prd f (idl u v) (idl u (-v)) (u * v) u := id_cg (prd_in (f := f) (a := u) (b := 0) (c := v) (e := 1) ⟨1, by grind⟩ ⟨0, by grind⟩) (by grind) (by grind)
    have k3 : prd f (idl u v) (idl u (-v)) (u * v) (-u) := id_cg (prd_in (f := f) (a := v) (b := -1) (c := u) (e := 0) ⟨0, by grind⟩ ⟨1, by grind⟩) (by grind) (by grind)
    have k4 : prd f (idl u v) (idl u (-v)) (u * m) 0 := id_cg (prd_in (f := f) (a := -v) (b := 1) (c := v) (e := 1) ⟨0, by grind⟩ ⟨0, by grind⟩) (by grind) (by grind)
    have k5 := hI.1 _ _ _ _ (hI.2 _ _ x 0 k1) (hI.1 _ _ _ _ (hI.2 _ _ y 0 (hI.1 _ _ _ _ k2 k3)) (hI.2 _ _ z 0 k4))
    have k6 := hI.2 _ _ c e k5
    refine id_cg k6 ?_ ?_
    · rw [h1]; grind
    · rw [h2]; grind
/-! sums of equations -/
theorem lin1 {A : Type} [Lean.Grind.CommRing A] {x y c1 l1 r1 : A} (h1 : l1 = r1) (e : x - y = c1 * (l1 - r1)) : x = y := by
  rw [h1] at e
  grind
theorem lin2 {A : Type} [Lean.Grind.CommRing A] {x y c1 c2 l1 r1 l2 r2 : A} (h1 : l1 = r1) (h2 : l2 = r2) (e : x - y = c1 * (l1 - r1) + c2 * (l2 - r2)) : x = y := by
  rw [h1, h2] at e
  grind
theorem lin3 {A : Type} [Lean.Grind.CommRing A] {x y c1 c2 c3 l1 r1 l2 r2 l3 r3 : A} (h1 : l1 = r1) (h2 : l2 = r2) (h3 : l3 = r3) (e : x - y = c1 * (l1 - r1) + c2 * (l2 - r2) + c3 * (l3 - r3)) : x = y := by
  rw [h1, h2, h3] at e
  grind
theorem lin4 {A : Type} [Lean.Grind.CommRing A] {x y c1 c2 c3 c4 l1 r1 l2 r2 l3 r3 l4 r4 : A} (h1 : l1 = r1) (h2 : l2 = r2) (h3 : l3 = r3) (h4 : l4 = r4) (e : x - y = c1 * (l1 - r1) + c2 * (l2 - r2) + c3 * (l3 - r3) + c4 * (l4 - r4)) : x = y := by
  rw [h1, h2, h3, h4] at e
  grind
theorem lin5 {A : Type} [Lean.Grind.CommRing A] {x y c1 c2 c3 c4 c5 l1 r1 l2 r2 l3 r3 l4 r4 l5 r5 : A} (h1 : l1 = r1) (h2 : l2 = r2) (h3 : l3 = r3) (h4 : l4 = r4) (h5 : l5 = r5) (e : x - y = c1 * (l1 - r1) + c2 * (l2 - r2) + c3 * (l3 - r3) + c4 * (l4 - r4) + c5 * (l5 - r5)) : x = y := by
  rw [h1, h2, h3, h4, h5] at e
  grind
theorem lin6 {A : Type} [Lean.Grind.CommRing A] {x y c1 c2 c3 c4 c5 c6 l1 r1 l2 r2 l3 r3 l4 r4 l5 r5 l6 r6 : A} (h1 : l1 = r1) (h2 : l2 = r2) (h3 : l3 = r3) (h4 : l4 = r4) (h5 : l5 = r5) (h6 : l6 = r6) (e : x - y = c1 * (l1 - r1) + c2 * (l2 - r2) + c3 * (l3 - r3) + c4 * (l4 - r4) + c5 * (l5 - r5) + c6 * (l6 - r6)) : x = y := by
  rw [h1, h2, h3, h4, h5, h6] at e
  grind
theorem lin7 {A : Type} [Lean.Grind.CommRing A] {x y c1 c2 c3 c4 c5 c6 c7 l1 r1 l2 r2 l3 r3 l4 r4 l5 r5 l6 r6 l7 r7 : A} (h1 : l1 = r1) (h2 : l2 = r2) (h3 : l3 = r3) (h4 : l4 = r4) (h5 : l5 = r5) (h6 : l6 = r6) (h7 : l7 = r7) (e : x - y = c1 * (l1 - r1) + c2 * (l2 - r2) + c3 * (l3 - r3) + c4 * (l4 - r4) + c5 * (l5 - r5) + c6 * (l6 - r6) + c7 * (l7 - r7)) : x = y := by
  rw [h1, h2, h3, h4, h5, h6, h7] at e
  grind
theorem lin8 {A : Type} [Lean.Grind.CommRing A] {x y c1 c2 c3 c4 c5 c6 c7 c8 l1 r1 l2 r2 l3 r3 l4 r4 l5 r5 l6 r6 l7 r7 l8 r8 : A} (h1 : l1 = r1) (h2 : l2 = r2) (h3 : l3 = r3) (h4 : l4 = r4) (h5 : l5 = r5) (h6 : l6 = r6) (h7 : l7 = r7) (h8 : l8 = r8) (e : x - y = c1 * (l1 - r1) + c2 * (l2 - r2) + c3 * (l3 - r3) + c4 * (l4 - r4) + c5 * (l5 - r5) + c6 * (l6 - r6) + c7 * (l7 - r7) + c8 * (l8 - r8)) : x = y := by
  rw [h1, h2, h3, h4, h5, h6, h7, h8] at e
  grind
theorem d_cn {A : Type} [Lean.Grind.CommRing A] {f d a b : A} (hd : dmn f) (d0 : d ≠ 0) (h : d * a = d * b) : a = b := by
  have e : d * (a - b) = 0 := lin1 (c1 := 1) h (by grind)
  rcases hd.1 _ _ e with z | z
  · exact absurd z d0
  · exact lin1 (c1 := 1) z (by grind)
theorem cq1 {A : Type} [Lean.Grind.CommRing A] {f v z w m2 d e1 e2 e3 u w' V0 : A} (h2 : f - z * z = w * m2) (hdd : d = e1 * u + e2 * w + e3 * (v + z)) (hw : w = w' * d) (hV : d * V0 = e1 * u * z + e2 * w * v + e3 * (v * z + f)) : d * (V0 - z) = d * (w' * (e2 * (v - z) + e3 * m2)) := lin4 (c1 := 1) (c2 := -z) (c3 := e3) (c4 := e2 * (v - z) + e3 * m2) hV hdd h2 hw (by clear hV hdd h2 hw; grind)
theorem cq2 {A : Type} [Lean.Grind.CommRing A] {f v z w m d e1 e2 e3 u u' V0 : A} (h1 : f - v * v = u * m) (hdd : d = e1 * u + e2 * w + e3 * (v + z)) (hu : u = u' * d) (hV : d * V0 = e1 * u * z + e2 * w * v + e3 * (v * z + f)) : d * (V0 - v) = d * (u' * (e1 * (z - v) + e3 * m)) := lin4 (c1 := 1) (c2 := -v) (c3 := e3) (c4 := e1 * (z - v) + e3 * m) hV hdd h1 hu (by clear hV hdd h1 hu; grind)
theorem cq3 {A : Type} [Lean.Grind.CommRing A] {f v z u m u' d g : A} (h1 : f - v * v = u * m) (hu : u = u' * d) (hg : v + z = g * d) : f + v * z = d * (u' * m + v * g) := lin3 (c1 := 1) (c2 := m) (c3 := v) h1 hu hg (by clear h1 hu hg; grind)
theorem cq4 {A : Type} [Lean.Grind.CommRing A] {f u v m w z m2 d e1 e2 e3 u' w' g V0 U : A} (h1 : f - v * v = u * m) (h2 : f - z * z = w * m2) (hdd : d = e1 * u + e2 * w + e3 * (v + z)) (hu : u = u' * d) (hw : w = w' * d) (hg : v + z = g * d) (hV : d * V0 = e1 * u * z + e2 * w * v + e3 * (v * z + f)) (hU : U = u' * w') (q3 : f + v * z = d * (u' * m + v * g)) : d * (d * ((u' * m + v * g) - g * V0)) = d * (d * (U * (e1 * m2 + e2 * m))) := by
  have k1 : d * (u' * w' * d) = u * w := lin2 (c1 := -w) (c2 := -(u' * d)) hu hw (by clear hdd hU hg hV q3 h1 h2 hu hw; grind)
  have k2 : d * (d * ((u' * m + v * g) - g * V0)) = d * (f + v * z) - (v + z) * (e1 * u * z + e2 * w * v + e3 * (v * z + f)) := lin3 (c1 := -d) (c2 := d * V0) (c3 := -(v + z)) q3 hg hV (by clear k1 hdd hU hg hV q3 h1 h2 hu hw; grind)
  have k3 : d * (f + v * z) - (v + z) * (e1 * u * z + e2 * w * v + e3 * (v * z + f)) = u * w * (e1 * m2 + e2 * m) := lin3 (c1 := f + v * z) (c2 := e1 * u) (c3 := e2 * w) hdd h2 h1 (by clear k1 k2 hdd hU hg hV q3 h1 h2 hu hw; grind)
  rw [k2, k3, hU]
  exact lin1 (c1 := -(e1 * m2 + e2 * m)) k1 (by clear k1 k2 k3 hdd hU hg hV q3 h1 h2 hu hw; grind)
/-- what the sum of two is made of: U divides f - V V, too -/
theorem cmp_sub {A : Type} [Lean.Grind.CommRing A] {f u v m w z m2 d e1 e2 e3 u' w' g V0 V U k : A} (hd : dmn f) (h1 : f - v * v = u * m) (h2 : f - z * z = w * m2) (hdd : d = e1 * u + e2 * w + e3 * (v + z)) (hu : u = u' * d) (hw : w = w' * d) (hg : v + z = g * d) (hV : d * V0 = e1 * u * z + e2 * w * v + e3 * (v * z + f)) (hU : U = u' * w') (hk : V0 = V + U * k) (d0 : d ≠ 0) : (∀ a b, prd f (idl u v) (idl w z) a b → iscl f d 0 (idl U V) a b) ∧ ∃ m3, f - V * V = U * m3 := by
  have q1 : V0 - z = w' * (e2 * (v - z) + e3 * m2) := d_cn hd d0 (cq1 h2 hdd hw hV)
  have q2 : V0 - v = u' * (e1 * (z - v) + e3 * m) := d_cn hd d0 (cq2 h1 hdd hu hV)
  have q3 := cq3 h1 hu hg
  have q4 : (u' * m + v * g) - g * V0 = U * (e1 * m2 + e2 * m) := d_cn hd d0 (d_cn hd d0 (cq4 h1 h2 hdd hu hw hg hV hU q3))
  generalize e2 * (v - z) + e3 * m2 = T2 at q1
  generalize e1 * (z - v) + e3 * m = T1 at q2
  generalize e1 * m2 + e2 * m = T3 at q4
  clear hV hdd h1 h2
  refine ⟨fun a b mm => mm _ ?_ ?_, d * T3 - T1 * T2 + (V0 + V0) * k - U * (k * k), ?_⟩
  · clear q1 q2 q3 q4 hu hw hg hU hk d0 hd mm
    rintro a b c e ⟨a1, a2, ⟨s, hs⟩, h3, h4⟩ ⟨b1, b2, ⟨s', hs'⟩, h5, h6⟩
    refine ⟨a1 + b1, a2 + b2, ⟨s + s', lin2 (c1 := 1) (c2 := 1) hs hs' ?_⟩, ?_, ?_⟩
    · clear hs hs' h3 h4 h5 h6; grind
    · rw [h3, h5]; clear hs hs' h3 h4 h5 h6; grind
    · rw [h4, h6]; clear hs hs' h3 h4 h5 h6; grind
  · clear mm
    rintro a b c e ⟨s, hs⟩ ⟨s', hs'⟩
    refine ⟨s * (u' * w) * s' - s * u' * e * z - b * s' * w' * v + b * e * (u' * m + v * g), s * u' * e + b * s' * w' - b * e * g, ⟨s * d * s' + s * e * T2 + b * s' * T1 + b * e * T3 - (s * u' * e + b * s' * w' - b * e * g) * k, ?_⟩, ?_, ?_⟩
    · refine lin6 (c1 := s * u' * s') (c2 := s * u' * e) (c3 := b * s' * w') (c4 := b * e) (c5 := -(s * d * s' + s * e * T2 + b * s' * T1)) (c6 := -(s * u' * e + b * s' * w' - b * e * g)) hw q1 q2 q4 hU hk ?_
      clear hw q1 q2 q4 hU hk hs hs' q3 hu hg d0 hd
      grind
    · refine lin5 (c1 := c) (c2 := u * s - b * v) (c3 := s * w * s' - s * e * z) (c4 := -(b * s' * v)) (c5 := b * e) hs hs' hu hw q3 ?_
      clear hw q1 q2 q4 hU hk hs hs' q3 hu hg d0 hd
      grind
    · refine lin5 (c1 := e) (c2 := b) (c3 := s * e) (c4 := b * s') (c5 := -(b * e)) hs hs' hu hw hg ?_
      clear hw q1 q2 q4 hU hk hs hs' q3 hu hg d0 hd
      grind
  · refine lin7 (c1 := 1) (c2 := -V0) (c3 := d) (c4 := -(u' * T1)) (c5 := V + V0 - U * k) (c6 := -(V0 - z)) (c7 := T1 * T2) q3 hg q4 q1 hk q2 hU ?_
    clear hw q1 q2 q4 hU hk q3 hu hg d0 hd
    grind
/-- f has no square in it -/
def bez {A : Type} [Lean.Grind.CommRing A] (f : A) : Prop := ∀ u v m : A, f - v * v = u * m → ∃ x y z, x * u + y * (v + v) + z * m = 1
theorem cmp_eq {A : Type} [Lean.Grind.CommRing A] {f u v m w z m2 d e1 e2 e3 u' w' g V0 V U k : A} (hd : dmn f) (hb : bez f) (h1 : f - v * v = u * m) (h2 : f - z * z = w * m2) (hdd : d = e1 * u + e2 * w + e3 * (v + z)) (hu : u = u' * d) (hw : w = w' * d) (hg : v + z = g * d) (hV : d * V0 = e1 * u * z + e2 * w * v + e3 * (v * z + f)) (hU : U = u' * w') (hk : V0 = V + U * k) (d0 : d ≠ 0) (u0 : u ≠ 0) (w0 : w ≠ 0) : prd f (idl u v) (idl w z) = iscl f d 0 (idl U V) ∧ ∃ m3, f - V * V = U * m3 := by
  obtain ⟨s1, m3, h3⟩ := cmp_sub hd h1 h2 hdd hu hw hg hV hU hk d0
  have n1 : f - -v * -v = u * m := by rw [← h1]; clear h1 h2 h3 hdd hu hw hg hV hU hk s1; grind
  have n2 : f - -z * -z = w * m2 := by rw [← h2]; clear h1 h2 h3 hdd hu hw hg hV hU hk s1; grind
  have n3 : d = e1 * u + e2 * w + -e3 * (-v + -z) := lin1 (c1 := 1) hdd (by clear h1 h2 h3 hdd hu hw hg hV hU hk s1; grind)
  have n4 : -v + -z = -g * d := lin1 (c1 := -1) hg (by clear h1 h2 h3 hdd hu hw hg hV hU hk s1; grind)
  have n5 : d * -V0 = e1 * u * -z + e2 * w * -v + -e3 * (-v * -z + f) := lin1 (c1 := -1) hV (by clear h1 h2 h3 hdd hu hw hg hV hU hk s1; grind)
  have n6 : -V0 = -V + U * -k := lin1 (c1 := -1) hk (by clear h1 h2 h3 hdd hu hw hg hV hU hk s1; grind)
  obtain ⟨s2, -⟩ := cmp_sub hd n1 n2 n3 hu hw n4 n5 hU n6 d0
  have huw : u * w = d * (d * U) := by rw [hU, hu, hw]; clear h1 h2 h3 hdd hu hw hg hV hU hk s1 s2 n1 n2 n3 n4 n5 n6; grind
  refine ⟨id_ext s1 ?_, m3, h3⟩
  obtain ⟨x1, y1, z1, b1⟩ := hb u v m h1
  obtain ⟨x2, y2, z2, b2⟩ := hb w z m2 h2
  obtain ⟨x3, y3, z3, b3⟩ := hb U V m3 h3
  have i1 := inv_idl h1 b1
  have i2 := inv_idl h2 b2
  have i3 := inv_idl h3 b3
  clear n1 n2 n3 n4 n5 n6 hdd hg hV hk b1 b2 b3
  have uw0 : u * w ≠ 0 := fun z => by
    rcases hd.1 _ _ z with z | z
    · exact u0 z
    · exact w0 z
  have nuw : nzp (u * w) (0 : A) := fun z => uw0 z.1
  have jI : isI f (idl U V) := idl_isI h3
  have qI : isI f (iscl f d 0 (idl U V)) := by
    refine ⟨?_, ?_⟩
    · rintro a b c e ⟨a1, a2, k1, k2, k3⟩ ⟨b1, b2, k4, k5, k6⟩
      refine ⟨_, _, jI.1 _ _ _ _ k1 k4, ?_, ?_⟩
      · rw [k2, k5]; clear h1 h2 h3 hu hw hU huw k1 k2 k3 k4 k5 k6; grind
      · rw [k3, k6]; clear h1 h2 h3 hu hw hU huw k1 k2 k3 k4 k5 k6; grind
    · rintro a b c e ⟨a1, a2, k1, k2, k3⟩
      refine ⟨_, _, jI.2 _ _ c e k1, ?_, ?_⟩
      · rw [k2, k3]; clear h1 h2 h3 hu hw hU huw k1 k2 k3; grind
      · rw [k2, k3]; clear h1 h2 h3 hu hw hU huw k1 k2 k3; grind
  -- (P)(P other) = u w
  have pp : prd f (prd f (idl u v) (idl w z)) (prd f (idl u (-v)) (idl w (-z))) = iscl f (u * w) 0 unt := by
    rw [prd_assoc, ← prd_assoc f (idl w z), prd_comm f (idl w z), prd_assoc f (idl u (-v)), ← prd_assoc, i1, i2, ← iscl_prd, prd_comm, ← iscl_prd, prd_unt (unt_isI f), iscl_iscl]
    clear h1 h2 h3 hu hw hU huw
    exact iscl_cg (by grind) (by grind)
  have qq : prd f (iscl f d 0 (idl U V)) (iscl f d 0 (idl U (-V))) = iscl f (u * w) 0 unt := by
    rw [← iscl_prd, prd_comm, ← iscl_prd, prd_comm, i3, iscl_iscl, iscl_iscl, huw]
    clear h1 h2 h3 hu hw hU huw
    exact iscl_cg (by grind) (by grind)
  have pI : isI f (prd f (idl u v) (idl w z)) := prd_isI (idl_isI h1)
  refine iscl_can hd nuw (fun a b m' => ?_)
  have e1' : iscl f (u * w) 0 (iscl f d 0 (idl U V)) = prd f (iscl f d 0 (idl U V)) (iscl f (u * w) 0 unt) := by
    rw [prd_comm, ← iscl_prd, prd_comm, prd_unt qI]
  rw [e1', ← pp, prd_comm f (prd f (idl u v) (idl w z)), ← prd_assoc] at m'
  have m2' := prd_mono (fun a b h => prd_mono (fun a b h => h) s2 a b h) (fun a b h => h) a b m'
  rw [qq, ← iscl_prd, prd_comm, prd_unt pI] at m2'
  exact m2'
/-- one step down -/
theorem red_eq {A : Type} [Lean.Grind.CommRing A] {f U V M : A} (h : f - V * V = U * M) : iscl f V 1 (idl U V) = iscl f U 0 (idl M (-V)) := by
  refine id_ext ?_ ?_
  · rintro a b ⟨c, e, ⟨s, hs⟩, h1, h2⟩
    refine ⟨V * s + e * M, s, ⟨e, ?_⟩, ?_, ?_⟩
    · clear h hs h1 h2; grind
    · rw [h1]
      exact lin2 (c1 := V) (c2 := e) hs h (by clear h hs h1 h2; grind)
    · rw [h2]
      exact lin1 (c1 := 1) hs (by clear h hs h1 h2; grind)
  · rintro a b ⟨c, e, ⟨k, hk⟩, h1, h2⟩
    refine ⟨U * e - k * V, k, ⟨e, ?_⟩, ?_, ?_⟩
    · clear h hk h1 h2; grind
    · rw [h1]
      exact lin2 (c1 := U) (c2 := -k) hk h (by clear h hk h1 h2; grind)
    · rw [h2]; clear h hk h1 h2; grind
theorem red_eqv {A : Type} [Lean.Grind.CommRing A] {f U V M : A} (hd : dmn f) (h : f - V * V = U * M) (U0 : U ≠ 0) : eqv f (idl U V) (idl M (-V)) := ⟨V, 1, U, 0, fun z => hd.2.2 z.2, fun z => U0 z.1, red_eq h⟩
theorem idl_unit {A : Type} [Lean.Grind.CommRing A] {M M' c c' : A} (V : A) (h1 : M' = M * c) (h2 : M = M' * c') : idl M V = idl M' V := by
  refine id_ext ?_ ?_
  · rintro a b ⟨s, hs⟩
    exact ⟨c' * s, lin2 (c1 := 1) (c2 := s) hs h2 (by clear hs h1 h2; grind)⟩
  · rintro a b ⟨s, hs⟩
    exact ⟨c * s, lin2 (c1 := 1) (c2 := s) hs h1 (by clear hs h1 h2; grind)⟩
theorem idl_shift {A : Type} [Lean.Grind.CommRing A] {M V V' k : A} (h : V = V' + M * k) : idl M V = idl M V' := by
  refine id_ext ?_ ?_
  · rintro a b ⟨s, hs⟩
    exact ⟨s - b * k, lin2 (c1 := 1) (c2 := -b) hs h (by clear hs h; grind)⟩
  · rintro a b ⟨s, hs⟩
    exact ⟨s + b * k, lin2 (c1 := 1) (c2 := b) hs h (by clear hs h; grind)⟩
/-- the other one -/
def cjg {A : Type} [Lean.Grind.CommRing A] (I : A → A → Prop) : A → A → Prop := fun a b => I a (-b)
theorem cjg_prd {A : Type} [Lean.Grind.CommRing A] (f : A) (I J : A → A → Prop) : cjg (prd f I J) = prd f (cjg I) (cjg J) := by
  refine id_ext (fun a b h => ?_) (fun a b h => ?_)
  · have := h (fun a b => prd f (cjg I) (cjg J) a (-b)) (fun a b c e h1 h2 => id_cg (prd_add h1 h2) rfl (by grind)) (fun a b c e hi hj => ?_)
    · exact id_cg this rfl (by grind)
    · have k1 : cjg I a (-b) := show I a (- -b) from id_cg hi rfl (by grind)
      have k2 : cjg J c (-e) := show J c (- -e) from id_cg hj rfl (by grind)
      exact id_cg (prd_in (f := f) k1 k2) (by grind) (by grind)
  · refine h (cjg (prd f I J)) (fun a b c e h1 h2 => show prd f I J (a + c) (-(b + e)) from id_cg (prd_add h1 h2) rfl (by grind)) (fun a b c e hi hj => ?_)
    have k1 : I a (-b) := hi
    have k2 : J c (-e) := hj
    show prd f I J (a * c + b * e * f) (-(a * e + b * c))
    exact id_cg (prd_in (f := f) k1 k2) (by grind) (by grind)
theorem cjg_idl {A : Type} [Lean.Grind.CommRing A] (u v : A) : cjg (idl u v) = idl u (-v) := id_ext (fun a b ⟨s, h⟩ => ⟨s, by rw [← h]; clear h; grind⟩) (fun a b ⟨s, h⟩ => ⟨s, by rw [← h]; clear h; grind⟩)
theorem cjg_scl {A : Type} [Lean.Grind.CommRing A] (f c g : A) : cjg (iscl f c g unt) = iscl f c (-g) unt := by
  refine id_ext ?_ ?_
  · rintro a b ⟨c1, e1, -, h1, h2⟩
    exact ⟨c1, -e1, trivial, by rw [h1]; clear h1 h2; grind, lin1 (c1 := -1) h2 (by clear h1 h2; grind)⟩
  · rintro a b ⟨c1, e1, -, h1, h2⟩
    exact ⟨c1, -e1, trivial, by rw [h1]; clear h1 h2; grind, lin1 (c1 := -1) h2 (by clear h1 h2; grind)⟩
/-- of those that are alike there is one of a small degree -/
theorem idl_uniq {A : Type} [Lean.Grind.CommRing A] {f u v m u' v' m' : A} (hd : dmn f) (hb : bez f) (h1 : f - v * v = u * m) (h2 : f - v' * v' = u' * m') (u0 : u ≠ 0) (u0' : u' ≠ 0) (hdeg : ∀ c e x : A, (c * c - e * e * f) * x = u * u' → e = 0) (he : eqv f (idl u v) (idl u' v')) : idl u v = idl u' v' := by
  obtain ⟨x, y, z, w, nx, nz, e⟩ := he
  obtain ⟨x1, y1, z1, b1⟩ := hb u v m h1
  obtain ⟨x2, y2, z2, b2⟩ := hb u' v' m' h2
  have i1 := inv_idl h1 b1
  have i2 := inv_idl h2 b2
  have hI := idl_isI h1
  have hJ := idl_isI h2
  clear b1 b2
  have e1 : iscl f x y (prd f (idl u v) (idl u' (-v'))) = iscl f z w (iscl f u' 0 unt) := by
    rw [iscl_prd, e, ← iscl_prd, i2]
  have mem : iscl f z w (iscl f u' 0 unt) (z * u' + w * 0 * f) (z * 0 + w * u') := ⟨u', 0, ⟨1, 0, trivial, by grind, by grind⟩, rfl, rfl⟩
  rw [← e1] at mem
  obtain ⟨c, g, hcg, q1, q2⟩ := mem
  have e2 : prd f (idl u v) (idl u' (-v')) = iscl f c g unt := by
    refine iscl_inj hd nx ?_
    rw [e1, iscl_iscl, iscl_iscl]
    exact iscl_cg (lin1 (c1 := 1) q1 (by clear q1 q2 h1 h2; grind)) (lin1 (c1 := 1) q2 (by clear q1 q2 h1 h2; grind))
  have e2c : prd f (idl u (-v)) (idl u' v') = iscl f c (-g) unt := by
    have := congrArg cjg e2
    rw [cjg_prd, cjg_idl, cjg_idl, cjg_scl] at this
    rw [← this]
    congr 2
    clear q1 q2 h1 h2; grind
  have e3 : iscl f (c * c - g * g * f) 0 unt = iscl f (u * u') 0 unt := by
    have l1 : prd f (prd f (idl u v) (idl u' (-v'))) (prd f (idl u (-v)) (idl u' v')) = iscl f (c * c - g * g * f) 0 unt := by
      rw [e2, e2c, ← iscl_prd, prd_comm, ← iscl_prd, prd_unt (unt_isI f), iscl_iscl]
      clear q1 q2 h1 h2
      exact iscl_cg (by grind) (by grind)
    have l2 : prd f (prd f (idl u v) (idl u' (-v'))) (prd f (idl u (-v)) (idl u' v')) = iscl f (u * u') 0 unt := by
      rw [prd_assoc, ← prd_assoc f (idl u' (-v')), prd_comm f (idl u' (-v')), prd_assoc f (idl u (-v)), prd_comm f (idl u' (-v')), ← prd_assoc, i1, i2, ← iscl_prd, prd_comm, ← iscl_prd, prd_unt (unt_isI f), iscl_iscl]
      clear q1 q2 h1 h2
      exact iscl_cg (by grind) (by grind)
    rw [← l1, l2]
  have g0 : g = 0 := by
    have : iscl f (u * u') 0 unt (u * u' * 1 + 0 * 0 * f) (u * u' * 0 + 0 * 1) := ⟨1, 0, trivial, rfl, rfl⟩
    rw [← e3] at this
    obtain ⟨a, b, -, r1, -⟩ := this
    exact hdeg c g a (lin1 (c1 := -1) r1 (by clear q1 q2 h1 h2 r1; grind))
  rw [g0] at e2
  have e4 : iscl f u' 0 (idl u v) = iscl f c 0 (idl u' v') := by
    have l1 : prd f (prd f (idl u v) (idl u' (-v'))) (idl u' v') = iscl f u' 0 (idl u v) := by
      rw [prd_assoc, prd_comm f (idl u' (-v')), i2, prd_comm, ← iscl_prd, prd_comm, prd_unt hI]
    have l2 : prd f (prd f (idl u v) (idl u' (-v'))) (idl u' v') = iscl f c 0 (idl u' v') := by
      rw [e2, ← iscl_prd, prd_comm, prd_unt hJ]
    rw [← l1, l2]
  have m1 : iscl f u' 0 (idl u v) (u' * -v + 0 * 1 * f) (u' * 1 + 0 * -v) := ⟨-v, 1, ⟨0, by clear q1 q2 h1 h2; grind⟩, rfl, rfl⟩
  have m2 : iscl f c 0 (idl u' v') (c * -v' + 0 * 1 * f) (c * 1 + 0 * -v') := ⟨-v', 1, ⟨0, by clear q1 q2 h1 h2; grind⟩, rfl, rfl⟩
  rw [e4] at m1
  rw [← e4] at m2
  obtain ⟨a1, b1, -, -, r1⟩ := m1
  obtain ⟨a2, b2, -, -, r2⟩ := m2
  have r1 : u' = c * b1 := lin1 (c1 := 1) r1 (by clear q1 q2 h1 h2 r1 r2; grind)
  have r2 : c = u' * b2 := lin1 (c1 := 1) r2 (by clear q1 q2 h1 h2 r1 r2; grind)
  have r3 : b2 * b1 = 1 := d_cn hd u0' (lin2 (c1 := -1) (c2 := -b1) r1 r2 (by clear q1 q2 h1 h2 r1 r2; grind))
  refine id_ext (fun a b hi => ?_) (fun a b hj => ?_)
  · have : iscl f u' 0 (idl u v) (u' * a + 0 * b * f) (u' * b + 0 * a) := ⟨a, b, hi, rfl, rfl⟩
    rw [e4] at this
    obtain ⟨a', b', hj, s1, s2⟩ := this
    have t1 : a = b2 * a' := d_cn hd u0' (lin2 (c1 := 1) (c2 := a') s1 r2 (by clear q1 q2 h1 h2 r1 r2 r3 s1 s2; grind))
    have t2 : b = b2 * b' := d_cn hd u0' (lin2 (c1 := 1) (c2 := b') s2 r2 (by clear q1 q2 h1 h2 r1 r2 r3 s1 s2; grind))
    exact id_cg (hJ.2 _ _ b2 0 hj) (by rw [t1]; clear q1 q2 h1 h2 r1 r2 r3 s1 s2 t1 t2; grind) (by rw [t2]; clear q1 q2 h1 h2 r1 r2 r3 s1 s2 t1 t2; grind)
  · have : iscl f c 0 (idl u' v') (c * a + 0 * b * f) (c * b + 0 * a) := ⟨a, b, hj, rfl, rfl⟩
    rw [← e4] at this
    obtain ⟨a', b', hi, s1, s2⟩ := this
    have t1 : b2 * a = a' := d_cn hd u0' (lin2 (c1 := 1) (c2 := -a) s1 r2 (by clear q1 q2 h1 h2 r1 r2 r3 s1 s2; grind))
    have t2 : b2 * b = b' := d_cn hd u0' (lin2 (c1 := 1) (c2 := -b) s2 r2 (by clear q1 q2 h1 h2 r1 r2 r3 s1 s2; grind))
    exact id_cg (hI.2 _ _ b1 0 hi) (lin2 (c1 := b1) (c2 := -a) t1 r3 (by clear q1 q2 h1 h2 r1 r2 r3 s1 s2 t1 t2; grind)) (lin2 (c1 := b1) (c2 := -b) t2 r3 (by clear q1 q2 h1 h2 r1 r2 r3 s1 s2 t1 t2; grind))
