/-! X5.surface -/
abbrev wm_X5_surface : List Cond := Cond.code yX5_surface cX5_surface 12 (some .int) :: wsL_law
def q_X5_surface_141 (post : Int32 → fcS → Prop) (k59 : Int32 → Int32 → Int32 → Int32 → Int32 → Int32 → Int32 → Int32 → Int32 → fcS → Prop) (v1 : Int32) (v2 : Int32) (v3 : Int32) (v4 : Int32) (v5 : Int32) (v6 : Int32) (v8 : Int32) (v9 : Int32) (v11 : Int32) (vs0 : Int32) (vs1 : Int32) (t : fcS) : Prop := ∀ x19 : Int32, x19 = (vs1 + vs0) → ((¬ v11 = (-1) → (∀ x20 : Int32, x20 = (v8 + 0) → (∀ x21 : Int32, x21 = v9 + 1 → (k59 v1 v2 v3 v4 v5 v6 x19 x20 x21 t)))) ∧ (v11 = (-1) → (∀ x22 : Int32, x22 = (v8 + 1) → (∀ x23 : Int32, x23 = v9 + 1 → (k59 v1 v2 v3 v4 v5 v6 x19 x22 x23 t)))))
def q_X5_surface_125 (post : Int32 → fcS → Prop) (k59 : Int32 → Int32 → Int32 → Int32 → Int32 → Int32 → Int32 → Int32 → Int32 → fcS → Prop) (v1 : Int32) (v2 : Int32) (v3 : Int32) (v4 : Int32) (v5 : Int32) (v7 : Int32) (v8 : Int32) (v9 : Int32) (v11 : Int32) (vs0 : Int32) (vs1 : Int32) (t : fcS) : Prop := ∀ x18 : Int32, x18 = (vs1 + vs0) → ((¬ v11 = 1 → (q_X5_surface_141 post k59 v1 v2 v3 v4 v5 x18 v8 v9 v11 0 v7 t)) ∧ (v11 = 1 → (q_X5_surface_141 post k59 v1 v2 v3 v4 v5 x18 v8 v9 v11 1 v7 t)))
def q_X5_surface_109 (post : Int32 → fcS → Prop) (k59 : Int32 → Int32 → Int32 → Int32 → Int32 → Int32 → Int32 → Int32 → Int32 → fcS → Prop) (v1 : Int32) (v2 : Int32) (v3 : Int32) (v4 : Int32) (v6 : Int32) (v7 : Int32) (v8 : Int32) (v9 : Int32) (v10 : Int32) (v11 : Int32) (vs0 : Int32) (vs1 : Int32) (t : fcS) : Prop := ∀ x17 : Int32, x17 = (vs1 + vs0) → ((¬ v10 = (-1) → (q_X5_surface_125 post k59 v1 v2 v3 v4 x17 v7 v8 v9 v11 0 v6 t)) ∧ (v10 = (-1) → (q_X5_surface_125 post k59 v1 v2 v3 v4 x17 v7 v8 v9 v11 1 v6 t)))
def q_X5_surface_59 (post : Int32 → fcS → Prop) : Nat → Int32 → Int32 → Int32 → Int32 → Int32 → Int32 → Int32 → Int32 → Int32 → fcS → Prop
  | 0, _, _, _, _, _, _, _, _, _, _ => False
  | n + 1, v1, v2, v3, v4, v5, v6, v7, v8, v9, t => (v4 ≤ v9 → (∀ x10 : Int32, x10 = ((v4 * v4) - ((v5 + v6) * (v7 + v8))) → (post ((x10 + (2 * ((v5 * v7) + (v6 * v8))))) t))) ∧ (¬ v4 ≤ v9 → (q_X5_valueOf t v1 v3 v9 (fun (r12 : Int32) (t11 : fcS) => (vp_in r12 344) ∧ (∀ x13 : Int32, x13 = (fga t11 61 (Int32.toNatClampNeg r12)) → (q_X5_valueOf t11 v2 v3 v9 (fun (r15 : Int32) (t14 : fcS) => (vp_in r15 344) ∧ (∀ x16 : Int32, x16 = (fga t14 61 (Int32.toNatClampNeg r15)) → ((¬ x13 = 1 → (q_X5_surface_109 post (fun v1_ v2_ v3_ v4_ v5_ v6_ v7_ v8_ v9_ t_ => q_X5_surface_59 post n v1_ v2_ v3_ v4_ v5_ v6_ v7_ v8_ v9_ t_) v1 v2 v3 v4 v6 v7 v8 v9 x13 x16 0 v5 t14)) ∧ (x13 = 1 → (q_X5_surface_109 post (fun v1_ v2_ v3_ v4_ v5_ v6_ v7_ v8_ v9_ t_ => q_X5_surface_59 post n v1_ v2_ v3_ v4_ v5_ v6_ v7_ v8_ v9_ t_) v1 v2 v3 v4 v6 v7 v8 v9 x13 x16 1 v5 t14))))))))))
def q_X5_surface (t : fcS) (a0 : Int32) (a1 : Int32) (a2 : Int32) (post : Int32 → fcS → Prop) : Prop := ∀ t1 : fcS, t1 = fsi t 53 0 0 → (q_X5_isCurve t1 a0 (fun (r3 : Int32) (t2 : fcS) => (r3 = 0 → (post ((-1)) t2)) ∧ (¬ r3 = 0 → (q_X5_isCurve t2 a1 (fun (r5 : Int32) (t4 : fcS) => (r5 = 0 → (post ((-1)) t4)) ∧ (¬ r5 = 0 → (q_X5_isField t4 a2 (fun (r7 : Int32) (t6 : fcS) => (¬ r7 = 0 → (q_X5_needSigns t6 a2 (fun (t8 : fcS) => (vp_in a2 6) ∧ (∀ x9 : Int32, x9 = (fga t8 54 (Int32.toNatClampNeg a2)) → (∃ n0, q_X5_surface_59 post n0 a0 a1 a2 x9 0 0 0 0 0 t8))))) ∧ (r7 = 0 → (post ((-1)) t6))))))))))
set_option maxHeartbeats 4000000 in
set_option maxRecDepth 100000 in
theorem k_X5_surface_141 {D : va_G} {adr : Nat → Nat} {cs : Nat → ClassId} {N : Nat} (hN : 67 ≤ N) {p : Program} {l : Launch} {e : Env} {s : State} {m : MethodId} {args : Array Value} {below : List Frame} {meth : Method} {c : Code} (C : fCx D adr cs N p s m args meth c cX5_surface 12 (some .int) RX5 wm_X5_surface) {post : Int32 → fcS → Prop} {k59 : Int32 → Int32 → Int32 → Int32 → Int32 → Int32 → Int32 → Int32 → Int32 → fcS → Prop} (hk59 : ∀ (v1 : Int32) (v2 : Int32) (v3 : Int32) (v4 : Int32) (v5 : Int32) (v6 : Int32) (v7 : Int32) (v8 : Int32) (v9 : Int32) (t : fcS) (H : Heap) (locs : List Loc) (ls : Array Slot), k59 v1 v2 v3 v4 v5 v6 v7 v8 v9 t → va_P D vwCl (fwl adr N (fG adr cs t)) H → va_S (faN adr N) s.heap H locs → lv_has ls 12 [(0, .ref (adr 53)), (1, .int v1), (2, .int v2), (3, .int v3), (4, .int v4), (5, .int v5), (6, .int v6), (7, .int v7), (8, .int v8), (9, .int v9)] → W p l e ({ frames := 4, cells := 0, slots := 0, locals := 100 } : Room) s m args below meth c H locs 0 0 (MQ below (fQi D adr cs N post) args s 0 0 (faN adr N)) (F0 m 59 ls [])) : ∀ (v1 : Int32) (v2 : Int32) (v3 : Int32) (v4 : Int32) (v5 : Int32) (v6 : Int32) (v8 : Int32) (v9 : Int32) (v11 : Int32) (vs0 : Int32) (vs1 : Int32) (t : fcS) (H : Heap) (locs : List Loc) (ls : Array Slot), q_X5_surface_141 post k59 v1 v2 v3 v4 v5 v6 v8 v9 v11 vs0 vs1 t → va_P D vwCl (fwl adr N (fG adr cs t)) H → va_S (faN adr N) s.heap H locs → lv_has ls 12 [(0, .ref (adr 53)), (1, .int v1), (2, .int v2), (3, .int v3), (4, .int v4), (5, .int v5), (6, .int v6), (8, .int v8), (9, .int v9), (11, .int v11)] → W p l e ({ frames := 4, cells := 0, slots := 0, locals := 100 } : Room) s m args below meth c H locs 0 0 (MQ below (fQi D adr cs N post) args s 0 0 (faN adr N)) (F0 m 141 ls [.int vs0, .int vs1]) := by
  have hx := C.1.1
  have hb := C.1.2.1
  intro v1 v2 v3 v4 v5 v6 v8 v9 v11 vs0 vs1 t H locs ls h hP hS hl
  unfold q_X5_surface_141 at h
  refine lv_iadd hx hb dX5_surface_141 ?_
  refine lv_topi (fun x19 ex19 => ?_)
  replace h := h x19 ex19
  refine lv_istore (lv' := [(7, .int x19), (0, .ref (adr 53)), (1, .int v1), (2, .int v2), (3, .int v3), (4, .int v4), (5, .int v5), (6, .int v6), (8, .int v8), (9, .int v9), (11, .int v11)]) hx hb dX5_surface_142 hl (by decide) rfl (fun ls hl => ?_)
  refine lv_iload hx hb dX5_surface_144 (lv_at hl 8 rfl) ?_
  refine lv_iload hx hb dX5_surface_146 (lv_at hl 10 rfl) ?_
  refine lv_iconst (v := (-1)) hx hb dX5_surface_148 (by decide) ?_
  refine lv_icmp_ne (tgt := 156) hx hb dX5_surface_149 (by decide) (fun c9 => ?_) (fun c9 => ?_)
  · replace h := h.1 c9
    refine lv_iconst (v := 0) hx hb dX5_surface_156 (by decide) ?_
    refine lv_iadd hx hb dX5_surface_157 ?_
    refine lv_topi (fun x20 ex20 => ?_)
    replace h := h x20 ex20
    refine lv_istore (lv' := [(8, .int x20), (7, .int x19), (0, .ref (adr 53)), (1, .int v1), (2, .int v2), (3, .int v3), (4, .int v4), (5, .int v5), (6, .int v6), (9, .int v9), (11, .int v11)]) hx hb dX5_surface_158 hl (by decide) rfl (fun ls hl => ?_)
    obtain ⟨x21, ex21⟩ : ∃ y : Int32, y = v9 + 1 := ⟨_, rfl⟩
    replace h := h x21 ex21
    refine lv_iinc (v := x21) (lv' := [(9, .int x21), (8, .int x20), (7, .int x19), (0, .ref (adr 53)), (1, .int v1), (2, .int v2), (3, .int v3), (4, .int v4), (5, .int v5), (6, .int v6), (11, .int v11)]) hx hb dX5_surface_160 hl (k := 9) rfl (by rw [ex21]; rfl) (by decide) rfl (fun ls hl => ?_)
    refine lv_goto (tgt := 59) hx hb dX5_surface_163 (by decide) ?_
    exact hk59 v1 v2 v3 v4 v5 v6 x19 x20 x21 t _ _ _ h hP hS (lv_sub hl [3, 4, 5, 6, 7, 8, 9, 2, 1, 0] rfl)
  · replace h := h.2 c9
    refine lv_iconst (v := 1) hx hb dX5_surface_152 (by decide) ?_
    refine lv_goto (tgt := 157) hx hb dX5_surface_153 (by decide) ?_
    refine lv_iadd hx hb dX5_surface_157 ?_
    refine lv_topi (fun x22 ex22 => ?_)
    replace h := h x22 ex22
    refine lv_istore (lv' := [(8, .int x22), (7, .int x19), (0, .ref (adr 53)), (1, .int v1), (2, .int v2), (3, .int v3), (4, .int v4), (5, .int v5), (6, .int v6), (9, .int v9), (11, .int v11)]) hx hb dX5_surface_158 hl (by decide) rfl (fun ls hl => ?_)
    obtain ⟨x23, ex23⟩ : ∃ y : Int32, y = v9 + 1 := ⟨_, rfl⟩
    replace h := h x23 ex23
    refine lv_iinc (v := x23) (lv' := [(9, .int x23), (8, .int x22), (7, .int x19), (0, .ref (adr 53)), (1, .int v1), (2, .int v2), (3, .int v3), (4, .int v4), (5, .int v5), (6, .int v6), (11, .int v11)]) hx hb dX5_surface_160 hl (k := 9) rfl (by rw [ex23]; rfl) (by decide) rfl (fun ls hl => ?_)
    refine lv_goto (tgt := 59) hx hb dX5_surface_163 (by decide) ?_
    exact hk59 v1 v2 v3 v4 v5 v6 x19 x22 x23 t _ _ _ h hP hS (lv_sub hl [3, 4, 5, 6, 7, 8, 9, 2, 1, 0] rfl)

set_option maxHeartbeats 4000000 in
set_option maxRecDepth 100000 in
theorem k_X5_surface_125 {D : va_G} {adr : Nat → Nat} {cs : Nat → ClassId} {N : Nat} (hN : 67 ≤ N) {p : Program} {l : Launch} {e : Env} {s : State} {m : MethodId} {args : Array Value} {below : List Frame} {meth : Method} {c : Code} (C : fCx D adr cs N p s m args meth c cX5_surface 12 (some .int) RX5 wm_X5_surface) {post : Int32 → fcS → Prop} {k59 : Int32 → Int32 → Int32 → Int32 → Int32 → Int32 → Int32 → Int32 → Int32 → fcS → Prop} (hk59 : ∀ (v1 : Int32) (v2 : Int32) (v3 : Int32) (v4 : Int32) (v5 : Int32) (v6 : Int32) (v7 : Int32) (v8 : Int32) (v9 : Int32) (t : fcS) (H : Heap) (locs : List Loc) (ls : Array Slot), k59 v1 v2 v3 v4 v5 v6 v7 v8 v9 t → va_P D vwCl (fwl adr N (fG adr cs t)) H → va_S (faN adr N) s.heap H locs → lv_has ls 12 [(0, .ref (adr 53)), (1, .int v1), (2, .int v2), (3, .int v3), (4, .int v4), (5, .int v5), (6, .int v6), (7, .int v7), (8, .int v8), (9, .int v9)] → W p l e ({ frames := 4, cells := 0, slots := 0, locals := 100 } : Room) s m args below meth c H locs 0 0 (MQ below (fQi D adr cs N post) args s 0 0 (faN adr N)) (F0 m 59 ls [])) : ∀ (v1 : Int32) (v2 : Int32) (v3 : Int32) (v4 : Int32) (v5 : Int32) (v7 : Int32) (v8 : Int32) (v9 : Int32) (v11 : Int32) (vs0 : Int32) (vs1 : Int32) (t : fcS) (H : Heap) (locs : List Loc) (ls : Array Slot), q_X5_surface_125 post k59 v1 v2 v3 v4 v5 v7 v8 v9 v11 vs0 vs1 t → va_P D vwCl (fwl adr N (fG adr cs t)) H → va_S (faN adr N) s.heap H locs → lv_has ls 12 [(0, .ref (adr 53)), (1, .int v1), (2, .int v2), (3, .int v3), (4, .int v4), (5, .int v5), (7, .int v7), (8, .int v8), (9, .int v9), (11, .int v11)] → W p l e ({ frames := 4, cells := 0, slots := 0, locals := 100 } : Room) s m args below meth c H locs 0 0 (MQ below (fQi D adr cs N post) args s 0 0 (faN adr N)) (F0 m 125 ls [.int vs0, .int vs1]) := by
  have hx := C.1.1
  have hb := C.1.2.1
  intro v1 v2 v3 v4 v5 v7 v8 v9 v11 vs0 vs1 t H locs ls h hP hS hl
  unfold q_X5_surface_125 at h
  refine lv_iadd hx hb dX5_surface_125 ?_
  refine lv_topi (fun x18 ex18 => ?_)
  replace h := h x18 ex18
  refine lv_istore (lv' := [(6, .int x18), (0, .ref (adr 53)), (1, .int v1), (2, .int v2), (3, .int v3), (4, .int v4), (5, .int v5), (7, .int v7), (8, .int v8), (9, .int v9), (11, .int v11)]) hx hb dX5_surface_126 hl (by decide) rfl (fun ls hl => ?_)
  refine lv_iload hx hb dX5_surface_128 (lv_at hl 7 rfl) ?_
  refine lv_iload hx hb dX5_surface_130 (lv_at hl 10 rfl) ?_
  refine lv_iconst (v := 1) hx hb dX5_surface_132 (by decide) ?_
  refine lv_icmp_ne (tgt := 140) hx hb dX5_surface_133 (by decide) (fun c9 => ?_) (fun c9 => ?_)
  · replace h := h.1 c9
    refine lv_iconst (v := 0) hx hb dX5_surface_140 (by decide) ?_
    exact k_X5_surface_141 hN C hk59 v1 v2 v3 v4 v5 x18 v8 v9 v11 0 v7 t _ _ _ h hP hS (lv_sub hl [1, 2, 3, 4, 5, 6, 0, 8, 9, 10] rfl)
  · replace h := h.2 c9
    refine lv_iconst (v := 1) hx hb dX5_surface_136 (by decide) ?_
    refine lv_goto (tgt := 141) hx hb dX5_surface_137 (by decide) ?_
    exact k_X5_surface_141 hN C hk59 v1 v2 v3 v4 v5 x18 v8 v9 v11 1 v7 t _ _ _ h hP hS (lv_sub hl [1, 2, 3, 4, 5, 6, 0, 8, 9, 10] rfl)

set_option maxHeartbeats 4000000 in
set_option maxRecDepth 100000 in
theorem k_X5_surface_109 {D : va_G} {adr : Nat → Nat} {cs : Nat → ClassId} {N : Nat} (hN : 67 ≤ N) {p : Program} {l : Launch} {e : Env} {s : State} {m : MethodId} {args : Array Value} {below : List Frame} {meth : Method} {c : Code} (C : fCx D adr cs N p s m args meth c cX5_surface 12 (some .int) RX5 wm_X5_surface) {post : Int32 → fcS → Prop} {k59 : Int32 → Int32 → Int32 → Int32 → Int32 → Int32 → Int32 → Int32 → Int32 → fcS → Prop} (hk59 : ∀ (v1 : Int32) (v2 : Int32) (v3 : Int32) (v4 : Int32) (v5 : Int32) (v6 : Int32) (v7 : Int32) (v8 : Int32) (v9 : Int32) (t : fcS) (H : Heap) (locs : List Loc) (ls : Array Slot), k59 v1 v2 v3 v4 v5 v6 v7 v8 v9 t → va_P D vwCl (fwl adr N (fG adr cs t)) H → va_S (faN adr N) s.heap H locs → lv_has ls 12 [(0, .ref (adr 53)), (1, .int v1), (2, .int v2), (3, .int v3), (4, .int v4), (5, .int v5), (6, .int v6), (7, .int v7), (8, .int v8), (9, .int v9)] → W p l e ({ frames := 4, cells := 0, slots := 0, locals := 100 } : Room) s m args below meth c H locs 0 0 (MQ below (fQi D adr cs N post) args s 0 0 (faN adr N)) (F0 m 59 ls [])) : ∀ (v1 : Int32) (v2 : Int32) (v3 : Int32) (v4 : Int32) (v6 : Int32) (v7 : Int32) (v8 : Int32) (v9 : Int32) (v10 : Int32) (v11 : Int32) (vs0 : Int32) (vs1 : Int32) (t : fcS) (H : Heap) (locs : List Loc) (ls : Array Slot), q_X5_surface_109 post k59 v1 v2 v3 v4 v6 v7 v8 v9 v10 v11 vs0 vs1 t → va_P D vwCl (fwl adr N (fG adr cs t)) H → va_S (faN adr N) s.heap H locs → lv_has ls 12 [(0, .ref (adr 53)), (1, .int v1), (2, .int v2), (3, .int v3), (4, .int v4), (6, .int v6), (7, .int v7), (8, .int v8), (9, .int v9), (10, .int v10), (11, .int v11)] → W p l e ({ frames := 4, cells := 0, slots := 0, locals := 100 } : Room) s m args below meth c H locs 0 0 (MQ below (fQi D adr cs N post) args s 0 0 (faN adr N)) (F0 m 109 ls [.int vs0, .int vs1]) := by
  have hx := C.1.1
  have hb := C.1.2.1
  intro v1 v2 v3 v4 v6 v7 v8 v9 v10 v11 vs0 vs1 t H locs ls h hP hS hl
  unfold q_X5_surface_109 at h
  refine lv_iadd hx hb dX5_surface_109 ?_
  refine lv_topi (fun x17 ex17 => ?_)
  replace h := h x17 ex17
  refine lv_istore (lv' := [(5, .int x17), (0, .ref (adr 53)), (1, .int v1), (2, .int v2), (3, .int v3), (4, .int v4), (6, .int v6), (7, .int v7), (8, .int v8), (9, .int v9), (10, .int v10), (11, .int v11)]) hx hb dX5_surface_110 hl (by decide) rfl (fun ls hl => ?_)
  refine lv_iload hx hb dX5_surface_112 (lv_at hl 6 rfl) ?_
  refine lv_iload hx hb dX5_surface_114 (lv_at hl 10 rfl) ?_
  refine lv_iconst (v := (-1)) hx hb dX5_surface_116 (by decide) ?_
  refine lv_icmp_ne (tgt := 124) hx hb dX5_surface_117 (by decide) (fun c9 => ?_) (fun c9 => ?_)
  · replace h := h.1 c9
    refine lv_iconst (v := 0) hx hb dX5_surface_124 (by decide) ?_
    exact k_X5_surface_125 hN C hk59 v1 v2 v3 v4 x17 v7 v8 v9 v11 0 v6 t _ _ _ h hP hS (lv_sub hl [1, 2, 3, 4, 5, 0, 7, 8, 9, 11] rfl)
  · replace h := h.2 c9
    refine lv_iconst (v := 1) hx hb dX5_surface_120 (by decide) ?_
    refine lv_goto (tgt := 125) hx hb dX5_surface_121 (by decide) ?_
    exact k_X5_surface_125 hN C hk59 v1 v2 v3 v4 x17 v7 v8 v9 v11 1 v6 t _ _ _ h hP hS (lv_sub hl [1, 2, 3, 4, 5, 0, 7, 8, 9, 11] rfl)

set_option maxHeartbeats 4000000 in
set_option maxRecDepth 100000 in
theorem k_X5_surface_59 {D : va_G} {adr : Nat → Nat} {cs : Nat → ClassId} {N : Nat} (hN : 67 ≤ N) {p : Program} {l : Launch} {e : Env} {s : State} {m : MethodId} {args : Array Value} {below : List Frame} {meth : Method} {c : Code} (C : fCx D adr cs N p s m args meth c cX5_surface 12 (some .int) RX5 wm_X5_surface) {post : Int32 → fcS → Prop} : ∀ (n : Nat) (v1 : Int32) (v2 : Int32) (v3 : Int32) (v4 : Int32) (v5 : Int32) (v6 : Int32) (v7 : Int32) (v8 : Int32) (v9 : Int32) (t : fcS) (H : Heap) (locs : List Loc) (ls : Array Slot), q_X5_surface_59 post n v1 v2 v3 v4 v5 v6 v7 v8 v9 t → va_P D vwCl (fwl adr N (fG adr cs t)) H → va_S (faN adr N) s.heap H locs → lv_has ls 12 [(0, .ref (adr 53)), (1, .int v1), (2, .int v2), (3, .int v3), (4, .int v4), (5, .int v5), (6, .int v6), (7, .int v7), (8, .int v8), (9, .int v9)] → W p l e ({ frames := 4, cells := 0, slots := 0, locals := 100 } : Room) s m args below meth c H locs 0 0 (MQ below (fQi D adr cs N post) args s 0 0 (faN adr N)) (F0 m 59 ls []) := by
  have hx := C.1.1
  have hb := C.1.2.1
  intro n
  induction n with
  | zero => intro v1 v2 v3 v4 v5 v6 v7 v8 v9 t H locs ls h; exact False.elim h
  | succ n ih =>
    intro v1 v2 v3 v4 v5 v6 v7 v8 v9 t H locs ls h hP hS hl
    unfold q_X5_surface_59 at h
    refine lv_iload hx hb dX5_surface_59 (lv_at hl 9 rfl) ?_
    refine lv_iload hx hb dX5_surface_61 (lv_at hl 4 rfl) ?_
    refine lv_icmp_ge (tgt := 166) hx hb dX5_surface_63 (by decide) (fun c9 => ?_) (fun c9 => ?_)
    · replace h := h.1 c9
      refine lv_iload hx hb dX5_surface_166 (lv_at hl 4 rfl) ?_
      refine lv_iload hx hb dX5_surface_168 (lv_at hl 4 rfl) ?_
      refine lv_imul hx hb dX5_surface_170 ?_
      refine lv_iload hx hb dX5_surface_171 (lv_at hl 5 rfl) ?_
      refine lv_iload hx hb dX5_surface_173 (lv_at hl 6 rfl) ?_
      refine lv_iadd hx hb dX5_surface_175 ?_
      refine lv_iload hx hb dX5_surface_176 (lv_at hl 7 rfl) ?_
      refine lv_iload hx hb dX5_surface_178 (lv_at hl 8 rfl) ?_
      refine lv_iadd hx hb dX5_surface_180 ?_
      refine lv_imul hx hb dX5_surface_181 ?_
      refine lv_isub hx hb dX5_surface_182 ?_
      refine lv_topi (fun x10 ex10 => ?_)
      replace h := h x10 ex10
      refine lv_istore (lv' := [(9, .int x10), (0, .ref (adr 53)), (1, .int v1), (2, .int v2), (3, .int v3), (4, .int v4), (5, .int v5), (6, .int v6), (7, .int v7), (8, .int v8)]) hx hb dX5_surface_183 hl (by decide) rfl (fun ls hl => ?_)
      refine lv_iload hx hb dX5_surface_185 (lv_at hl 0 rfl) ?_
      refine lv_iconst (v := 2) hx hb dX5_surface_187 (by decide) ?_
      refine lv_iload hx hb dX5_surface_188 (lv_at hl 6 rfl) ?_
      refine lv_iload hx hb dX5_surface_190 (lv_at hl 8 rfl) ?_
      refine lv_imul hx hb dX5_surface_192 ?_
      refine lv_iload hx hb dX5_surface_193 (lv_at hl 7 rfl) ?_
      refine lv_iload hx hb dX5_surface_195 (lv_at hl 9 rfl) ?_
      refine lv_imul hx hb dX5_surface_197 ?_
      refine lv_iadd hx hb dX5_surface_198 ?_
      refine lv_imul hx hb dX5_surface_199 ?_
      refine lv_iadd hx hb dX5_surface_200 ?_
      exact fr_iret C hP hS h dX5_surface_201
    · replace h := h.2 c9
      refine lv_aload_n hx hb dX5_surface_66 rfl (lv_at hl 0 rfl) ?_
      refine fr_get (j := 14) C hP (by omega) (fG_MO adr cs t) rfl (fun w h => List.mem_cons_of_mem _ (inl_X5 w h)) (by decide) rfl (List.mem_cons_of_mem _ mw_7_15) rfl dX5_surface_67 ?_
      refine lv_aload_n hx hb dX5_surface_70 rfl (lv_at hl 0 rfl) ?_
      refine lv_iload_n hx hb dX5_surface_71 rfl (lv_at hl 1 rfl) ?_
      refine lv_iload_n hx hb dX5_surface_72 rfl (lv_at hl 3 rfl) ?_
      refine lv_iload hx hb dX5_surface_73 (lv_at hl 9 rfl) ?_
      refine fr_ci (fr_runV (n := 3) (rest := [.ref (adr 61)]) C (c_X5_valueOf l D adr cs hN t v1 v3 v9 _ h) hP hS (by omega) (fG_MO adr cs t) rfl (fgV mw_21_12 mw_21_13 mw_21_14 mw_1_5 mw_21_15) rfl rfl rfl (by decide +kernel) ⟨Nat.le_of_ble_eq_true rfl, Nat.le_of_ble_eq_true rfl⟩ rfl hl.1 rfl (Nat.le_of_ble_eq_true rfl) dX5_surface_75) hS (fun r12 t11 H locs h hP hS => ?_)
      refine fr_iald C hP (by omega) (fG_61 adr cs t11) h.1 dX5_surface_78 ?_
      replace h := h.2
      refine lv_topi (fun x13 ex13 => ?_)
      replace h := h x13 ex13
      refine lv_istore (lv' := [(10, .int x13), (0, .ref (adr 53)), (1, .int v1), (2, .int v2), (3, .int v3), (4, .int v4), (5, .int v5), (6, .int v6), (7, .int v7), (8, .int v8), (9, .int v9)]) hx hb dX5_surface_79 hl (by decide) rfl (fun ls hl => ?_)
      refine lv_aload_n hx hb dX5_surface_81 rfl (lv_at hl 1 rfl) ?_
      refine fr_get (j := 14) C hP (by omega) (fG_MO adr cs t11) rfl (fun w h => List.mem_cons_of_mem _ (inl_X5 w h)) (by decide) rfl (List.mem_cons_of_mem _ mw_7_15) rfl dX5_surface_82 ?_
      refine lv_aload_n hx hb dX5_surface_85 rfl (lv_at hl 1 rfl) ?_
      refine lv_iload_n hx hb dX5_surface_86 rfl (lv_at hl 3 rfl) ?_
      refine lv_iload_n hx hb dX5_surface_87 rfl (lv_at hl 4 rfl) ?_
      refine lv_iload hx hb dX5_surface_88 (lv_at hl 10 rfl) ?_
      refine fr_ci (fr_runV (n := 3) (rest := [.ref (adr 61)]) C (c_X5_valueOf l D adr cs hN t11 v2 v3 v9 _ h) hP hS (by omega) (fG_MO adr cs t11) rfl (fgV mw_21_12 mw_21_13 mw_21_14 mw_1_5 mw_21_15) rfl rfl rfl (by decide +kernel) ⟨Nat.le_of_ble_eq_true rfl, Nat.le_of_ble_eq_true rfl⟩ rfl hl.1 rfl (Nat.le_of_ble_eq_true rfl) dX5_surface_90) hS (fun r15 t14 H locs h hP hS => ?_)
      refine fr_iald C hP (by omega) (fG_61 adr cs t14) h.1 dX5_surface_93 ?_
      replace h := h.2
      refine lv_topi (fun x16 ex16 => ?_)
      replace h := h x16 ex16
      refine lv_istore (lv' := [(11, .int x16), (10, .int x13), (0, .ref (adr 53)), (1, .int v1), (2, .int v2), (3, .int v3), (4, .int v4), (5, .int v5), (6, .int v6), (7, .int v7), (8, .int v8), (9, .int v9)]) hx hb dX5_surface_94 hl (by decide) rfl (fun ls hl => ?_)
      refine lv_iload hx hb dX5_surface_96 (lv_at hl 7 rfl) ?_
      refine lv_iload hx hb dX5_surface_98 (lv_at hl 1 rfl) ?_
      refine lv_iconst (v := 1) hx hb dX5_surface_100 (by decide) ?_
      refine lv_icmp_ne (tgt := 108) hx hb dX5_surface_101 (by decide) (fun c9 => ?_) (fun c9 => ?_)
      · replace h := h.1 c9
        refine lv_iconst (v := 0) hx hb dX5_surface_108 (by decide) ?_
        exact k_X5_surface_109 hN C ih v1 v2 v3 v4 v6 v7 v8 v9 x13 x16 0 v5 t14 _ _ _ h hP hS (lv_sub hl [2, 3, 4, 5, 6, 8, 9, 10, 11, 1, 0] rfl)
      · replace h := h.2 c9
        refine lv_iconst (v := 1) hx hb dX5_surface_104 (by decide) ?_
        refine lv_goto (tgt := 109) hx hb dX5_surface_105 (by decide) ?_
        exact k_X5_surface_109 hN C ih v1 v2 v3 v4 v6 v7 v8 v9 x13 x16 1 v5 t14 _ _ _ h hP hS (lv_sub hl [2, 3, 4, 5, 6, 8, 9, 10, 11, 1, 0] rfl)

set_option maxHeartbeats 4000000 in
set_option maxRecDepth 100000 in
theorem c_X5_surface (l : Launch) (D : va_G) (adr : Nat → Nat) (cs : Nat → ClassId) {N : Nat} (hN : 67 ≤ N) (t : fcS) (a0 : Int32) (a1 : Int32) (a2 : Int32) (post : Int32 → fcS → Prop) (h : q_X5_surface t a0 a1 a2 post) : Met l yX5_surface wm_X5_surface ({ frames := 4, cells := 0, slots := 0, locals := 100 } : Room) (fcPre D adr cs N t [.ref (adr 53), .int a0, .int a1, .int a2]) (fQi D adr cs N post) 0 0 (faN adr N) := by
  refine f_enter (cc := cX5_surface) (nL := 12) (ret := some .int) (lv := [(0, .ref (adr 53)), (1, .int a0), (2, .int a1), (3, .int a2)]) (own := RX5) (by decide) rfl (Nat.le_of_ble_eq_true rfl) rfl rfl ?_
  intro p e s m below meth c ls C hP hS hl
  have hx := C.1.1
  have hb := C.1.2.1
  unfold q_X5_surface at h
  refine lv_aload_n hx hb dX5_surface_0 rfl (lv_at hl 0 rfl) ?_
  refine lv_iconst (v := 0) hx hb dX5_surface_1 (by decide) ?_
  refine fr_put C (fsi t 53 0 0) (j := 0) (ty := .int) hP hS (by omega) (fG_MO adr cs t) rfl (fun w h => List.mem_cons_of_mem _ (inl_X5 w h)) tyX5_ok nmX5 (by decide) rfl (List.mem_cons_of_mem _ mw_10_14) rfl (by decide +kernel) rfl rfl (Nat.le_of_ble_eq_true rfl) (fS_MO_0 adr cs t 0) (fG_fsi_ne adr cs t 53 0 0) dX5_surface_2 (fun H locs hP hS => ?_)
  obtain ⟨t1, et1⟩ : ∃ y : fcS, y = fsi t 53 0 0 := ⟨_, rfl⟩
  rw [← et1] at hP
  replace h := h t1 et1
  refine lv_aload_n hx hb dX5_surface_5 rfl (lv_at hl 0 rfl) ?_
  refine lv_iload_n hx hb dX5_surface_6 rfl (lv_at hl 1 rfl) ?_
  refine fr_ci (fr_runV (n := 1) (rest := []) C (c_X5_isCurve l D adr cs hN t1 a0 _ h) hP hS (by omega) (fG_MO adr cs t1) rfl (fgV mw_19_23 mw_20_0 mw_20_1 mw_1_5 mw_20_2) rfl rfl rfl (by decide +kernel) ⟨Nat.le_of_ble_eq_true rfl, Nat.le_of_ble_eq_true rfl⟩ rfl hl.1 rfl (Nat.le_of_ble_eq_true rfl) dX5_surface_7) hS (fun r3 t2 H locs h hP hS => ?_)
  refine lv_if_eq (tgt := 29) hx hb dX5_surface_10 (by decide) (fun c9 => ?_) (fun c9 => ?_)
  · replace h := h.1 c9
    refine lv_iconst (v := (-1)) hx hb dX5_surface_29 (by decide) ?_
    exact fr_iret C hP hS h dX5_surface_30
  · replace h := h.2 c9
    refine lv_aload_n hx hb dX5_surface_13 rfl (lv_at hl 0 rfl) ?_
    refine lv_iload_n hx hb dX5_surface_14 rfl (lv_at hl 2 rfl) ?_
    refine fr_ci (fr_runV (n := 1) (rest := []) C (c_X5_isCurve l D adr cs hN t2 a1 _ h) hP hS (by omega) (fG_MO adr cs t2) rfl (fgV mw_19_23 mw_20_0 mw_20_1 mw_1_5 mw_20_2) rfl rfl rfl (by decide +kernel) ⟨Nat.le_of_ble_eq_true rfl, Nat.le_of_ble_eq_true rfl⟩ rfl hl.1 rfl (Nat.le_of_ble_eq_true rfl) dX5_surface_15) hS (fun r5 t4 H locs h hP hS => ?_)
    refine lv_if_eq (tgt := 29) hx hb dX5_surface_18 (by decide) (fun c9 => ?_) (fun c9 => ?_)
    · replace h := h.1 c9
      refine lv_iconst (v := (-1)) hx hb dX5_surface_29 (by decide) ?_
      exact fr_iret C hP hS h dX5_surface_30
    · replace h := h.2 c9
      refine lv_aload_n hx hb dX5_surface_21 rfl (lv_at hl 0 rfl) ?_
      refine lv_iload_n hx hb dX5_surface_22 rfl (lv_at hl 3 rfl) ?_
      refine fr_ci (fr_runV (n := 1) (rest := []) C (c_X5_isField l D adr cs hN t4 a2 _ h) hP hS (by omega) (fG_MO adr cs t4) rfl (fgV mw_10_23 mw_11_0 mw_11_1 mw_1_5 mw_11_2) rfl rfl rfl (by decide +kernel) ⟨Nat.le_of_ble_eq_true rfl, Nat.le_of_ble_eq_true rfl⟩ rfl hl.1 rfl (Nat.le_of_ble_eq_true rfl) dX5_surface_23) hS (fun r7 t6 H locs h hP hS => ?_)
      refine lv_if_ne (tgt := 31) hx hb dX5_surface_26 (by decide) (fun c9 => ?_) (fun c9 => ?_)
      · replace h := h.1 c9
        refine lv_aload_n hx hb dX5_surface_31 rfl (lv_at hl 0 rfl) ?_
        refine lv_iload_n hx hb dX5_surface_32 rfl (lv_at hl 3 rfl) ?_
        refine fr_cv (fr_runV (n := 1) (rest := []) C (c_X5_needSigns l D adr cs hN t6 a2 _ h) hP hS (by omega) (fG_MO adr cs t6) rfl (fgV mw_9_13 mw_9_14 mw_9_15 mw_1_5 mw_9_16) rfl rfl rfl (by decide +kernel) ⟨Nat.le_of_ble_eq_true rfl, Nat.le_of_ble_eq_true rfl⟩ rfl hl.1 rfl (Nat.le_of_ble_eq_true rfl) dX5_surface_33) hS (fun t8 H locs h hP hS => ?_)
        refine lv_aload_n hx hb dX5_surface_36 rfl (lv_at hl 0 rfl) ?_
        refine fr_get (j := 3) C hP (by omega) (fG_MO adr cs t8) rfl (fun w h => List.mem_cons_of_mem _ (inl_X5 w h)) (by decide) rfl (List.mem_cons_of_mem _ mw_7_7) rfl dX5_surface_37 ?_
        refine lv_iload_n hx hb dX5_surface_40 rfl (lv_at hl 3 rfl) ?_
        refine fr_iald C hP (by omega) (fG_54 adr cs t8) h.1 dX5_surface_41 ?_
        replace h := h.2
        refine lv_topi (fun x9 ex9 => ?_)
        replace h := h x9 ex9
        refine lv_istore (lv' := [(4, .int x9), (0, .ref (adr 53)), (1, .int a0), (2, .int a1), (3, .int a2)]) hx hb dX5_surface_42 hl (by decide) rfl (fun ls hl => ?_)
        refine lv_iconst (v := 0) hx hb dX5_surface_44 (by decide) ?_
        refine lv_istore (lv' := [(5, .int 0), (4, .int x9), (0, .ref (adr 53)), (1, .int a0), (2, .int a1), (3, .int a2)]) hx hb dX5_surface_45 hl (by decide) rfl (fun ls hl => ?_)
        refine lv_iconst (v := 0) hx hb dX5_surface_47 (by decide) ?_
        refine lv_istore (lv' := [(6, .int 0), (5, .int 0), (4, .int x9), (0, .ref (adr 53)), (1, .int a0), (2, .int a1), (3, .int a2)]) hx hb dX5_surface_48 hl (by decide) rfl (fun ls hl => ?_)
        refine lv_iconst (v := 0) hx hb dX5_surface_50 (by decide) ?_
        refine lv_istore (lv' := [(7, .int 0), (6, .int 0), (5, .int 0), (4, .int x9), (0, .ref (adr 53)), (1, .int a0), (2, .int a1), (3, .int a2)]) hx hb dX5_surface_51 hl (by decide) rfl (fun ls hl => ?_)
        refine lv_iconst (v := 0) hx hb dX5_surface_53 (by decide) ?_
        refine lv_istore (lv' := [(8, .int 0), (7, .int 0), (6, .int 0), (5, .int 0), (4, .int x9), (0, .ref (adr 53)), (1, .int a0), (2, .int a1), (3, .int a2)]) hx hb dX5_surface_54 hl (by decide) rfl (fun ls hl => ?_)
        refine lv_iconst (v := 0) hx hb dX5_surface_56 (by decide) ?_
        refine lv_istore (lv' := [(9, .int 0), (8, .int 0), (7, .int 0), (6, .int 0), (5, .int 0), (4, .int x9), (0, .ref (adr 53)), (1, .int a0), (2, .int a1), (3, .int a2)]) hx hb dX5_surface_57 hl (by decide) rfl (fun ls hl => ?_)
        obtain ⟨n9, h⟩ := h
        exact k_X5_surface_59 hN C n9 a0 a1 a2 x9 0 0 0 0 0 t8 _ _ _ h hP hS (lv_sub hl [6, 7, 8, 9, 5, 4, 3, 2, 1, 0] rfl)
      · replace h := h.2 c9
        refine lv_iconst (v := (-1)) hx hb dX5_surface_29 (by decide) ?_
        exact fr_iret C hP hS h dX5_surface_30

/-! X5.best -/
abbrev wm_X5_best : List Cond := Cond.code yX5_best cX5_best 11 (some .int) :: wsL_law
def q_X5_best_150 (post : Int32 → fcS → Prop) (k55 : Int32 → Int32 → Int32 → Int32 → Int32 → Int32 → fcS → Prop) (k135 : Int32 → Int32 → Int32 → Int32 → Int32 → Int32 → Int32 → Int32 → fcS → Prop) : Nat → Int32 → Int32 → Int32 → Int32 → Int32 → Int32 → Int32 → Int32 → Int32 → Int32 → fcS → Prop
  | 0, _, _, _, _, _, _, _, _, _, _, _ => False
  | n + 1, v1, v2, v3, v4, v5, v6, v7, v8, v9, v10, t => (v10 < 0 → ((vp_in v9 344) ∧ (∀ x18 : Int32, x18 = (v7 + (1 + (fga t 61 (Int32.toNatClampNeg v9)))) → (∀ x19 : Int32, x19 = v8 + 1 → (k135 v1 v2 v3 v4 v5 v6 x18 x19 t))))) ∧ (¬ v10 < 0 → ((vp_in ((160 + v10)) 640) ∧ ((¬ ((fgi t 53 1) : Int32) = 0) ∧ (∀ x20 : Int32, x20 = (irm (((v9 * v8) + (fga t 60 (Int32.toNatClampNeg ((160 + v10)))))) ((fgi t 53 1))) → (∀ x21 : Int32, x21 = v10 + (-1) → (q_X5_best_150 post k55 k135 n v1 v2 v3 v4 v5 v6 v7 v8 x20 x21 t))))))
def q_X5_best_135 (post : Int32 → fcS → Prop) (k55 : Int32 → Int32 → Int32 → Int32 → Int32 → Int32 → fcS → Prop) : Nat → Int32 → Int32 → Int32 → Int32 → Int32 → Int32 → Int32 → Int32 → fcS → Prop
  | 0, _, _, _, _, _, _, _, _, _ => False
  | n + 1, v1, v2, v3, v4, v5, v6, v7, v8, t => ((fgi t 53 1) ≤ v8 → ((v7 ≤ v5 → (∀ x16 : Int32, x16 = v6 + 1 → (k55 v1 v2 v3 v4 v5 x16 t))) ∧ (¬ v7 ≤ v5 → (∀ x17 : Int32, x17 = v6 + 1 → (k55 v1 v2 v3 v6 v7 x17 t))))) ∧ (¬ (fgi t 53 1) ≤ v8 → (∃ n0, q_X5_best_150 post k55 (fun v1_ v2_ v3_ v4_ v5_ v6_ v7_ v8_ t_ => q_X5_best_135 post k55 n v1_ v2_ v3_ v4_ v5_ v6_ v7_ v8_ t_) n0 v1 v2 v3 v4 v5 v6 v7 v8 0 v1 t))
def q_X5_best_55 (post : Int32 → fcS → Prop) : Nat → Int32 → Int32 → Int32 → Int32 → Int32 → Int32 → fcS → Prop
  | 0, _, _, _, _, _, _, _ => False
  | n + 1, v1, v2, v3, v4, v5, v6, t => ((v2 + v3) ≤ v6 → (post v4 t)) ∧ (¬ (v2 + v3) ≤ v6 → (q_X5_isDegree t v6 v1 (fun (r9 : Int32) (t8 : fcS) => (r9 = 0 → (∀ x10 : Int32, x10 = v6 + 1 → (q_X5_best_55 post n v1 v2 v3 v4 v5 x10 t8))) ∧ (¬ r9 = 0 → (q_X5_knotOf t8 v6 (fun (r12 : Int32) (t11 : fcS) => (¬ r12 = 0 → (∀ x13 : Int32, x13 = v6 + 1 → (q_X5_best_55 post n v1 v2 v3 v4 v5 x13 t11))) ∧ (r12 = 0 → (q_X5_needSigns t11 1 (fun (t14 : fcS) => q_X5_load t14 10 v6 (fun (t15 : fcS) => (¬ (2 : Int32) = 0) ∧ ((¬ (irm v1 2) = 1 → ((vp_in ((160 + v1)) 640) ∧ ((vp_in ((fga t15 60 (Int32.toNatClampNeg ((160 + v1))))) 344) ∧ ((¬ (fga t15 61 (Int32.toNatClampNeg ((fga t15 60 (Int32.toNatClampNeg ((160 + v1))))))) = 1 → (∃ n0, q_X5_best_135 post (fun v1_ v2_ v3_ v4_ v5_ v6_ t_ => q_X5_best_55 post n v1_ v2_ v3_ v4_ v5_ v6_ t_) n0 v1 v2 v3 v4 v5 v6 0 0 t15)) ∧ ((fga t15 61 (Int32.toNatClampNeg ((fga t15 60 (Int32.toNatClampNeg ((160 + v1))))))) = 1 → (∃ n0, q_X5_best_135 post (fun v1_ v2_ v3_ v4_ v5_ v6_ t_ => q_X5_best_55 post n v1_ v2_ v3_ v4_ v5_ v6_ t_) n0 v1 v2 v3 v4 v5 v6 2 0 t15)))))) ∧ ((irm v1 2) = 1 → (∃ n0, q_X5_best_135 post (fun v1_ v2_ v3_ v4_ v5_ v6_ t_ => q_X5_best_55 post n v1_ v2_ v3_ v4_ v5_ v6_ t_) n0 v1 v2 v3 v4 v5 v6 1 0 t15)))))))))))))
def q_X5_best (t : fcS) (a0 : Int32) (a1 : Int32) (a2 : Int32) (post : Int32 → fcS → Prop) : Prop := ∀ t1 : fcS, t1 = fsi t 53 0 0 → (q_X5_in t1 ((Int32.toInt64 a0)) 3 6 (fun (r3 : Int32) (t2 : fcS) => (r3 = 0 → (post ((-1)) t2)) ∧ (¬ r3 = 0 → (q_X5_in t2 ((Int32.toInt64 a1)) 0 1000000 (fun (r5 : Int32) (t4 : fcS) => (r5 = 0 → (post ((-1)) t4)) ∧ (¬ r5 = 0 → (q_X5_in t4 ((Int32.toInt64 a2)) 1 100 (fun (r7 : Int32) (t6 : fcS) => (¬ r7 = 0 → (∃ n0, q_X5_best_55 post n0 a0 a1 a2 ((-9)) ((-1)) a1 t6)) ∧ (r7 = 0 → (post ((-1)) t6))))))))))
set_option maxHeartbeats 4000000 in
set_option maxRecDepth 100000 in
theorem k_X5_best_150 {D : va_G} {adr : Nat → Nat} {cs : Nat → ClassId} {N : Nat} (hN : 67 ≤ N) {p : Program} {l : Launch} {e : Env} {s : State} {m : MethodId} {args : Array Value} {below : List Frame} {meth : Method} {c : Code} (C : fCx D adr cs N p s m args meth c cX5_best 11 (some .int) RX5 wm_X5_best) {post : Int32 → fcS → Prop} {k55 : Int32 → Int32 → Int32 → Int32 → Int32 → Int32 → fcS → Prop} (hk55 : ∀ (v1 : Int32) (v2 : Int32) (v3 : Int32) (v4 : Int32) (v5 : Int32) (v6 : Int32) (t : fcS) (H : Heap) (locs : List Loc) (ls : Array Slot), k55 v1 v2 v3 v4 v5 v6 t → va_P D vwCl (fwl adr N (fG adr cs t)) H → va_S (faN adr N) s.heap H locs → lv_has ls 11 [(0, .ref (adr 53)), (1, .int v1), (2, .int v2), (3, .int v3), (4, .int v4), (5, .int v5), (6, .int v6)] → W p l e ({ frames := 4, cells := 0, slots := 0, locals := 100 } : Room) s m args below meth c H locs 0 0 (MQ below (fQi D adr cs N post) args s 0 0 (faN adr N)) (F0 m 55 ls [])) {k135 : Int32 → Int32 → Int32 → Int32 → Int32 → Int32 → Int32 → Int32 → fcS → Prop} (hk135 : ∀ (v1 : Int32) (v2 : Int32) (v3 : Int32) (v4 : Int32) (v5 : Int32) (v6 : Int32) (v7 : Int32) (v8 : Int32) (t : fcS) (H : Heap) (locs : List Loc) (ls : Array Slot), k135 v1 v2 v3 v4 v5 v6 v7 v8 t → va_P D vwCl (fwl adr N (fG adr cs t)) H → va_S (faN adr N) s.heap H locs → lv_has ls 11 [(0, .ref (adr 53)), (1, .int v1), (2, .int v2), (3, .int v3), (4, .int v4), (5, .int v5), (6, .int v6), (7, .int v7), (8, .int v8)] → W p l e ({ frames := 4, cells := 0, slots := 0, locals := 100 } : Room) s m args below meth c H locs 0 0 (MQ below (fQi D adr cs N post) args s 0 0 (faN adr N)) (F0 m 135 ls [])) : ∀ (n : Nat) (v1 : Int32) (v2 : Int32) (v3 : Int32) (v4 : Int32) (v5 : Int32) (v6 : Int32) (v7 : Int32) (v8 : Int32) (v9 : Int32) (v10 : Int32) (t : fcS) (H : Heap) (locs : List Loc) (ls : Array Slot), q_X5_best_150 post k55 k135 n v1 v2 v3 v4 v5 v6 v7 v8 v9 v10 t → va_P D vwCl (fwl adr N (fG adr cs t)) H → va_S (faN adr N) s.heap H locs → lv_has ls 11 [(0, .ref (adr 53)), (1, .int v1), (2, .int v2), (3, .int v3), (4, .int v4), (5, .int v5), (6, .int v6), (7, .int v7), (8, .int v8), (9, .int v9), (10, .int v10)] → W p l e ({ frames := 4, cells := 0, slots := 0, locals := 100 } : Room) s m args below meth c H locs 0 0 (MQ below (fQi D adr cs N post) args s 0 0 (faN adr N)) (F0 m 150 ls []) := by
  have hx := C.1.1
  have hb := C.1.2.1
  intro n
  induction n with
  | zero => intro v1 v2 v3 v4 v5 v6 v7 v8 v9 v10 t H locs ls h; exact False.elim h
  | succ n ih =>
    intro v1 v2 v3 v4 v5 v6 v7 v8 v9 v10 t H locs ls h hP hS hl
    unfold q_X5_best_150 at h
    refine lv_iload hx hb dX5_best_150 (lv_at hl 10 rfl) ?_
    refine lv_if_lt (tgt := 185) hx hb dX5_best_152 (by decide) (fun c9 => ?_) (fun c9 => ?_)
    · replace h := h.1 c9
      refine lv_iload hx hb dX5_best_185 (lv_at hl 7 rfl) ?_
      refine lv_iconst (v := 1) hx hb dX5_best_187 (by decide) ?_
      refine lv_aload_n hx hb dX5_best_188 rfl (lv_at hl 0 rfl) ?_
      refine fr_get (j := 14) C hP (by omega) (fG_MO adr cs t) rfl (fun w h => List.mem_cons_of_mem _ (inl_X5 w h)) (by decide) rfl (List.mem_cons_of_mem _ mw_7_15) rfl dX5_best_189 ?_
      refine lv_iload hx hb dX5_best_192 (lv_at hl 9 rfl) ?_
      refine fr_iald C hP (by omega) (fG_61 adr cs t) h.1 dX5_best_194 ?_
      replace h := h.2
      refine lv_iadd hx hb dX5_best_195 ?_
      refine lv_iadd hx hb dX5_best_196 ?_
      refine lv_topi (fun x18 ex18 => ?_)
      replace h := h x18 ex18
      refine lv_istore (lv' := [(7, .int x18), (0, .ref (adr 53)), (1, .int v1), (2, .int v2), (3, .int v3), (4, .int v4), (5, .int v5), (6, .int v6), (8, .int v8), (9, .int v9), (10, .int v10)]) hx hb dX5_best_197 hl (by decide) rfl (fun ls hl => ?_)
      obtain ⟨x19, ex19⟩ : ∃ y : Int32, y = v8 + 1 := ⟨_, rfl⟩
      replace h := h x19 ex19
      refine lv_iinc (v := x19) (lv' := [(8, .int x19), (7, .int x18), (0, .ref (adr 53)), (1, .int v1), (2, .int v2), (3, .int v3), (4, .int v4), (5, .int v5), (6, .int v6), (9, .int v9), (10, .int v10)]) hx hb dX5_best_199 hl (k := 8) rfl (by rw [ex19]; rfl) (by decide) rfl (fun ls hl => ?_)
      refine lv_goto (tgt := 135) hx hb dX5_best_202 (by decide) ?_
      exact hk135 v1 v2 v3 v4 v5 v6 x18 x19 t _ _ _ h hP hS (lv_sub hl [2, 3, 4, 5, 6, 7, 8, 1, 0] rfl)
    · replace h := h.2 c9
      refine lv_iload hx hb dX5_best_155 (lv_at hl 9 rfl) ?_
      refine lv_iload hx hb dX5_best_157 (lv_at hl 8 rfl) ?_
      refine lv_imul hx hb dX5_best_159 ?_
      refine lv_aload_n hx hb dX5_best_160 rfl (lv_at hl 0 rfl) ?_
      refine fr_get (j := 13) C hP (by omega) (fG_MO adr cs t) rfl (fun w h => List.mem_cons_of_mem _ (inl_X5 w h)) (by decide) rfl (List.mem_cons_of_mem _ mw_7_14) rfl dX5_best_161 ?_
      refine lv_sipush (v := 160) hx hb dX5_best_164 (by decide) ?_
      refine lv_iload hx hb dX5_best_167 (lv_at hl 10 rfl) ?_
      refine lv_iadd hx hb dX5_best_169 ?_
      refine fr_iald C hP (by omega) (fG_60 adr cs t) h.1 dX5_best_170 ?_
      replace h := h.2
      refine lv_iadd hx hb dX5_best_171 ?_
      refine lv_aload_n hx hb dX5_best_172 rfl (lv_at hl 0 rfl) ?_
      refine fr_get (j := 1) C hP (by omega) (fG_MO adr cs t) rfl (fun w h => List.mem_cons_of_mem _ (inl_X5 w h)) (by decide) rfl (List.mem_cons_of_mem _ mw_7_5) rfl dX5_best_173 ?_
      refine lv_irem hx hb dX5_best_176 h.1 ?_
      replace h := h.2
      refine lv_topi (fun x20 ex20 => ?_)
      replace h := h x20 ex20
      refine lv_istore (lv' := [(9, .int x20), (0, .ref (adr 53)), (1, .int v1), (2, .int v2), (3, .int v3), (4, .int v4), (5, .int v5), (6, .int v6), (7, .int v7), (8, .int v8), (10, .int v10)]) hx hb dX5_best_177 hl (by decide) rfl (fun ls hl => ?_)
      obtain ⟨x21, ex21⟩ : ∃ y : Int32, y = v10 + (-1) := ⟨_, rfl⟩
      replace h := h x21 ex21
      refine lv_iinc (v := x21) (lv' := [(10, .int x21), (9, .int x20), (0, .ref (adr 53)), (1, .int v1), (2, .int v2), (3, .int v3), (4, .int v4), (5, .int v5), (6, .int v6), (7, .int v7), (8, .int v8)]) hx hb dX5_best_179 hl (k := 10) rfl (by rw [ex21]; rfl) (by decide) rfl (fun ls hl => ?_)
      refine lv_goto (tgt := 150) hx hb dX5_best_182 (by decide) ?_
      exact ih v1 v2 v3 v4 v5 v6 v7 v8 x20 x21 t _ _ _ h hP hS (lv_sub hl [2, 3, 4, 5, 6, 7, 8, 9, 10, 1, 0] rfl)

set_option maxHeartbeats 4000000 in
set_option maxRecDepth 100000 in
theorem k_X5_best_135 {D : va_G} {adr : Nat → Nat} {cs : Nat → ClassId} {N : Nat} (hN : 67 ≤ N) {p : Program} {l : Launch} {e : Env} {s : State} {m : MethodId} {args : Array Value} {below : List Frame} {meth : Method} {c : Code} (C : fCx D adr cs N p s m args meth c cX5_best 11 (some .int) RX5 wm_X5_best) {post : Int32 → fcS → Prop} {k55 : Int32 → Int32 → Int32 → Int32 → Int32 → Int32 → fcS → Prop} (hk55 : ∀ (v1 : Int32) (v2 : Int32) (v3 : Int32) (v4 : Int32) (v5 : Int32) (v6 : Int32) (t : fcS) (H : Heap) (locs : List Loc) (ls : Array Slot), k55 v1 v2 v3 v4 v5 v6 t → va_P D vwCl (fwl adr N (fG adr cs t)) H → va_S (faN adr N) s.heap H locs → lv_has ls 11 [(0, .ref (adr 53)), (1, .int v1), (2, .int v2), (3, .int v3), (4, .int v4), (5, .int v5), (6, .int v6)] → W p l e ({ frames := 4, cells := 0, slots := 0, locals := 100 } : Room) s m args below meth c H locs 0 0 (MQ below (fQi D adr cs N post) args s 0 0 (faN adr N)) (F0 m 55 ls [])) : ∀ (n : Nat) (v1 : Int32) (v2 : Int32) (v3 : Int32) (v4 : Int32) (v5 : Int32) (v6 : Int32) (v7 : Int32) (v8 : Int32) (t : fcS) (H : Heap) (locs : List Loc) (ls : Array Slot), q_X5_best_135 post k55 n v1 v2 v3 v4 v5 v6 v7 v8 t → va_P D vwCl (fwl adr N (fG adr cs t)) H → va_S (faN adr N) s.heap H locs → lv_has ls 11 [(0, .ref (adr 53)), (1, .int v1), (2, .int v2), (3, .int v3), (4, .int v4), (5, .int v5), (6, .int v6), (7, .int v7), (8, .int v8)] → W p l e ({ frames := 4, cells := 0, slots := 0, locals := 100 } : Room) s m args below meth c H locs 0 0 (MQ below (fQi D adr cs N post) args s 0 0 (faN adr N)) (F0 m 135 ls []) := by
  have hx := C.1.1
  have hb := C.1.2.1
  intro n
  induction n with
  | zero => intro v1 v2 v3 v4 v5 v6 v7 v8 t H locs ls h; exact False.elim h
  | succ n ih =>
    intro v1 v2 v3 v4 v5 v6 v7 v8 t H locs ls h hP hS hl
    unfold q_X5_best_135 at h
    refine lv_iload hx hb dX5_best_135 (lv_at hl 8 rfl) ?_
    refine lv_aload_n hx hb dX5_best_137 rfl (lv_at hl 0 rfl) ?_
    refine fr_get (j := 1) C hP (by omega) (fG_MO adr cs t) rfl (fun w h => List.mem_cons_of_mem _ (inl_X5 w h)) (by decide) rfl (List.mem_cons_of_mem _ mw_7_5) rfl dX5_best_138 ?_
    refine lv_icmp_ge (tgt := 205) hx hb dX5_best_141 (by decide) (fun c9 => ?_) (fun c9 => ?_)
    · replace h := h.1 c9
      refine lv_iload hx hb dX5_best_205 (lv_at hl 7 rfl) ?_
      refine lv_iload hx hb dX5_best_207 (lv_at hl 5 rfl) ?_
      refine lv_icmp_le (tgt := 220) hx hb dX5_best_209 (by decide) (fun c9 => ?_) (fun c9 => ?_)
      · replace h := h.1 c9
        obtain ⟨x16, ex16⟩ : ∃ y : Int32, y = v6 + 1 := ⟨_, rfl⟩
        replace h := h x16 ex16
        refine lv_iinc (v := x16) (lv' := [(6, .int x16), (0, .ref (adr 53)), (1, .int v1), (2, .int v2), (3, .int v3), (4, .int v4), (5, .int v5), (7, .int v7), (8, .int v8)]) hx hb dX5_best_220 hl (k := 6) rfl (by rw [ex16]; rfl) (by decide) rfl (fun ls hl => ?_)
        refine lv_goto (tgt := 55) hx hb dX5_best_223 (by decide) ?_
        exact hk55 v1 v2 v3 v4 v5 x16 t _ _ _ h hP hS (lv_sub hl [1, 2, 3, 4, 5, 6, 0] rfl)
      · replace h := h.2 c9
        refine lv_iload hx hb dX5_best_212 (lv_at hl 7 rfl) ?_
        refine lv_istore (lv' := [(5, .int v7), (0, .ref (adr 53)), (1, .int v1), (2, .int v2), (3, .int v3), (4, .int v4), (6, .int v6), (7, .int v7), (8, .int v8)]) hx hb dX5_best_214 hl (by decide) rfl (fun ls hl => ?_)
        refine lv_iload hx hb dX5_best_216 (lv_at hl 6 rfl) ?_
        refine lv_istore (lv' := [(4, .int v6), (5, .int v7), (0, .ref (adr 53)), (1, .int v1), (2, .int v2), (3, .int v3), (6, .int v6), (7, .int v7), (8, .int v8)]) hx hb dX5_best_218 hl (by decide) rfl (fun ls hl => ?_)
        obtain ⟨x17, ex17⟩ : ∃ y : Int32, y = v6 + 1 := ⟨_, rfl⟩
        replace h := h x17 ex17
        refine lv_iinc (v := x17) (lv' := [(6, .int x17), (4, .int v6), (5, .int v7), (0, .ref (adr 53)), (1, .int v1), (2, .int v2), (3, .int v3), (7, .int v7), (8, .int v8)]) hx hb dX5_best_220 hl (k := 6) rfl (by rw [ex17]; rfl) (by decide) rfl (fun ls hl => ?_)
        refine lv_goto (tgt := 55) hx hb dX5_best_223 (by decide) ?_
        exact hk55 v1 v2 v3 v6 v7 x17 t _ _ _ h hP hS (lv_sub hl [3, 4, 5, 6, 1, 2, 0] rfl)
    · replace h := h.2 c9
      refine lv_iconst (v := 0) hx hb dX5_best_144 (by decide) ?_
      refine lv_istore (lv' := [(9, .int 0), (0, .ref (adr 53)), (1, .int v1), (2, .int v2), (3, .int v3), (4, .int v4), (5, .int v5), (6, .int v6), (7, .int v7), (8, .int v8)]) hx hb dX5_best_145 hl (by decide) rfl (fun ls hl => ?_)
      refine lv_iload_n hx hb dX5_best_147 rfl (lv_at hl 2 rfl) ?_
      refine lv_istore (lv' := [(10, .int v1), (9, .int 0), (0, .ref (adr 53)), (1, .int v1), (2, .int v2), (3, .int v3), (4, .int v4), (5, .int v5), (6, .int v6), (7, .int v7), (8, .int v8)]) hx hb dX5_best_148 hl (by decide) rfl (fun ls hl => ?_)
      obtain ⟨n9, h⟩ := h
      exact k_X5_best_150 hN C hk55 ih n9 v1 v2 v3 v4 v5 v6 v7 v8 0 v1 t _ _ _ h hP hS (lv_sub hl [2, 3, 4, 5, 6, 7, 8, 9, 10, 1, 0] rfl)

set_option maxHeartbeats 4000000 in
set_option maxRecDepth 100000 in
theorem k_X5_best_55 {D : va_G} {adr : Nat → Nat} {cs : Nat → ClassId} {N : Nat} (hN : 67 ≤ N) {p : Program} {l : Launch} {e : Env} {s : State} {m : MethodId} {args : Array Value} {below : List Frame} {meth : Method} {c : Code} (C : fCx D adr cs N p s m args meth c cX5_best 11 (some .int) RX5 wm_X5_best) {post : Int32 → fcS → Prop} : ∀ (n : Nat) (v1 : Int32) (v2 : Int32) (v3 : Int32) (v4 : Int32) (v5 : Int32) (v6 : Int32) (t : fcS) (H : Heap) (locs : List Loc) (ls : Array Slot), q_X5_best_55 post n v1 v2 v3 v4 v5 v6 t → va_P D vwCl (fwl adr N (fG adr cs t)) H → va_S (faN adr N) s.heap H locs → lv_has ls 11 [(0, .ref (adr 53)), (1, .int v1), (2, .int v2), (3, .int v3), (4, .int v4), (5, .int v5), (6, .int v6)] → W p l e ({ frames := 4, cells := 0, slots := 0, locals := 100 } : Room) s m args below meth c H locs 0 0 (MQ below (fQi D adr cs N post) args s 0 0 (faN adr N)) (F0 m 55 ls []) := by
  have hx := C.1.1
  have hb := C.1.2.1
  intro n
  induction n with
  | zero => intro v1 v2 v3 v4 v5 v6 t H locs ls h; exact False.elim h
  | succ n ih =>
    intro v1 v2 v3 v4 v5 v6 t H locs ls h hP hS hl
    unfold q_X5_best_55 at h
    refine lv_iload hx hb dX5_best_55 (lv_at hl 6 rfl) ?_
    refine lv_iload_n hx hb dX5_best_57 rfl (lv_at hl 2 rfl) ?_
    refine lv_iload_n hx hb dX5_best_58 rfl (lv_at hl 3 rfl) ?_
    refine lv_iadd hx hb dX5_best_59 ?_
    refine lv_icmp_ge (tgt := 226) hx hb dX5_best_60 (by decide) (fun c9 => ?_) (fun c9 => ?_)
    · replace h := h.1 c9
      refine lv_iload hx hb dX5_best_226 (lv_at hl 4 rfl) ?_
      exact fr_iret C hP hS h dX5_best_228
    · replace h := h.2 c9
      refine lv_aload_n hx hb dX5_best_63 rfl (lv_at hl 0 rfl) ?_
      refine lv_iload hx hb dX5_best_64 (lv_at hl 6 rfl) ?_
      refine lv_iload_n hx hb dX5_best_66 rfl (lv_at hl 1 rfl) ?_
      refine fr_ci (fr_runV (n := 2) (rest := []) C (c_X5_isDegree l D adr cs hN t v6 v1 _ h) hP hS (by omega) (fG_MO adr cs t) rfl (fgV mw_18_6 mw_18_7 mw_18_8 mw_1_5 mw_18_9) rfl rfl rfl (by decide +kernel) ⟨Nat.le_of_ble_eq_true rfl, Nat.le_of_ble_eq_true rfl⟩ rfl hl.1 rfl (Nat.le_of_ble_eq_true rfl) dX5_best_67) hS (fun r9 t8 H locs h hP hS => ?_)
      refine lv_if_eq (tgt := 220) hx hb dX5_best_70 (by decide) (fun c9 => ?_) (fun c9 => ?_)
      · replace h := h.1 c9
        obtain ⟨x10, ex10⟩ : ∃ y : Int32, y = v6 + 1 := ⟨_, rfl⟩
        replace h := h x10 ex10
        refine lv_iinc (v := x10) (lv' := [(6, .int x10), (0, .ref (adr 53)), (1, .int v1), (2, .int v2), (3, .int v3), (4, .int v4), (5, .int v5)]) hx hb dX5_best_220 hl (k := 6) rfl (by rw [ex10]; rfl) (by decide) rfl (fun ls hl => ?_)
        refine lv_goto (tgt := 55) hx hb dX5_best_223 (by decide) ?_
        exact ih v1 v2 v3 v4 v5 x10 t8 _ _ _ h hP hS (lv_sub hl [1, 2, 3, 4, 5, 6, 0] rfl)
      · replace h := h.2 c9
        refine lv_aload_n hx hb dX5_best_73 rfl (lv_at hl 0 rfl) ?_
        refine lv_iload hx hb dX5_best_74 (lv_at hl 6 rfl) ?_
        refine fr_ci (fr_runV (n := 1) (rest := []) C (c_X5_knotOf l D adr cs hN t8 v6 _ h) hP hS (by omega) (fG_MO adr cs t8) rfl (fgV mw_18_10 mw_18_11 mw_18_12 mw_1_5 mw_18_13) rfl rfl rfl (by decide +kernel) ⟨Nat.le_of_ble_eq_true rfl, Nat.le_of_ble_eq_true rfl⟩ rfl hl.1 rfl (Nat.le_of_ble_eq_true rfl) dX5_best_76) hS (fun r12 t11 H locs h hP hS => ?_)
        refine lv_if_ne (tgt := 220) hx hb dX5_best_79 (by decide) (fun c9 => ?_) (fun c9 => ?_)
        · replace h := h.1 c9
          obtain ⟨x13, ex13⟩ : ∃ y : Int32, y = v6 + 1 := ⟨_, rfl⟩
          replace h := h x13 ex13
          refine lv_iinc (v := x13) (lv' := [(6, .int x13), (0, .ref (adr 53)), (1, .int v1), (2, .int v2), (3, .int v3), (4, .int v4), (5, .int v5)]) hx hb dX5_best_220 hl (k := 6) rfl (by rw [ex13]; rfl) (by decide) rfl (fun ls hl => ?_)
          refine lv_goto (tgt := 55) hx hb dX5_best_223 (by decide) ?_
          exact ih v1 v2 v3 v4 v5 x13 t11 _ _ _ h hP hS (lv_sub hl [1, 2, 3, 4, 5, 6, 0] rfl)
        · replace h := h.2 c9
          refine lv_aload_n hx hb dX5_best_82 rfl (lv_at hl 0 rfl) ?_
          refine lv_iconst (v := 1) hx hb dX5_best_83 (by decide) ?_
          refine fr_cv (fr_runV (n := 1) (rest := []) C (c_X5_needSigns l D adr cs hN t11 1 _ h) hP hS (by omega) (fG_MO adr cs t11) rfl (fgV mw_9_13 mw_9_14 mw_9_15 mw_1_5 mw_9_16) rfl rfl rfl (by decide +kernel) ⟨Nat.le_of_ble_eq_true rfl, Nat.le_of_ble_eq_true rfl⟩ rfl hl.1 rfl (Nat.le_of_ble_eq_true rfl) dX5_best_84) hS (fun t14 H locs h hP hS => ?_)
          refine lv_aload_n hx hb dX5_best_87 rfl (lv_at hl 0 rfl) ?_
          refine lv_bipush (v := 10) hx hb dX5_best_88 (by decide) ?_
          refine lv_iload hx hb dX5_best_90 (lv_at hl 6 rfl) ?_
          refine fr_cv (fr_runV (n := 2) (rest := []) C (c_X5_load l D adr cs hN t14 10 v6 _ h) hP hS (by omega) (fG_MO adr cs t14) rfl (fgV mw_8_9 mw_8_10 mw_8_11 mw_1_5 mw_8_12) rfl rfl rfl (by decide +kernel) ⟨Nat.le_of_ble_eq_true rfl, Nat.le_of_ble_eq_true rfl⟩ rfl hl.1 rfl (Nat.le_of_ble_eq_true rfl) dX5_best_92) hS (fun t15 H locs h hP hS => ?_)
          refine lv_iload_n hx hb dX5_best_95 rfl (lv_at hl 1 rfl) ?_
          refine lv_iconst (v := 2) hx hb dX5_best_96 (by decide) ?_
          refine lv_irem hx hb dX5_best_97 h.1 ?_
          replace h := h.2
          refine lv_iconst (v := 1) hx hb dX5_best_98 (by decide) ?_
          refine lv_icmp_ne (tgt := 106) hx hb dX5_best_99 (by decide) (fun c9 => ?_) (fun c9 => ?_)
          · replace h := h.1 c9
            refine lv_aload_n hx hb dX5_best_106 rfl (lv_at hl 0 rfl) ?_
            refine fr_get (j := 14) C hP (by omega) (fG_MO adr cs t15) rfl (fun w h => List.mem_cons_of_mem _ (inl_X5 w h)) (by decide) rfl (List.mem_cons_of_mem _ mw_7_15) rfl dX5_best_107 ?_
            refine lv_aload_n hx hb dX5_best_110 rfl (lv_at hl 0 rfl) ?_
            refine fr_get (j := 13) C hP (by omega) (fG_MO adr cs t15) rfl (fun w h => List.mem_cons_of_mem _ (inl_X5 w h)) (by decide) rfl (List.mem_cons_of_mem _ mw_7_14) rfl dX5_best_111 ?_
            refine lv_sipush (v := 160) hx hb dX5_best_114 (by decide) ?_
            refine lv_iload_n hx hb dX5_best_117 rfl (lv_at hl 1 rfl) ?_
            refine lv_iadd hx hb dX5_best_118 ?_
            refine fr_iald C hP (by omega) (fG_60 adr cs t15) h.1 dX5_best_119 ?_
            replace h := h.2
            refine fr_iald C hP (by omega) (fG_61 adr cs t15) h.1 dX5_best_120 ?_
            replace h := h.2
            refine lv_iconst (v := 1) hx hb dX5_best_121 (by decide) ?_
            refine lv_icmp_ne (tgt := 129) hx hb dX5_best_122 (by decide) (fun c9 => ?_) (fun c9 => ?_)
            · replace h := h.1 c9
              refine lv_iconst (v := 0) hx hb dX5_best_129 (by decide) ?_
              refine lv_istore (lv' := [(7, .int 0), (0, .ref (adr 53)), (1, .int v1), (2, .int v2), (3, .int v3), (4, .int v4), (5, .int v5), (6, .int v6)]) hx hb dX5_best_130 hl (by decide) rfl (fun ls hl => ?_)
              refine lv_iconst (v := 0) hx hb dX5_best_132 (by decide) ?_
              refine lv_istore (lv' := [(8, .int 0), (7, .int 0), (0, .ref (adr 53)), (1, .int v1), (2, .int v2), (3, .int v3), (4, .int v4), (5, .int v5), (6, .int v6)]) hx hb dX5_best_133 hl (by decide) rfl (fun ls hl => ?_)
              obtain ⟨n9, h⟩ := h
              exact k_X5_best_135 hN C ih n9 v1 v2 v3 v4 v5 v6 0 0 t15 _ _ _ h hP hS (lv_sub hl [2, 3, 4, 5, 6, 7, 8, 1, 0] rfl)
            · replace h := h.2 c9
              refine lv_iconst (v := 2) hx hb dX5_best_125 (by decide) ?_
              refine lv_goto (tgt := 130) hx hb dX5_best_126 (by decide) ?_
              refine lv_istore (lv' := [(7, .int 2), (0, .ref (adr 53)), (1, .int v1), (2, .int v2), (3, .int v3), (4, .int v4), (5, .int v5), (6, .int v6)]) hx hb dX5_best_130 hl (by decide) rfl (fun ls hl => ?_)
              refine lv_iconst (v := 0) hx hb dX5_best_132 (by decide) ?_
              refine lv_istore (lv' := [(8, .int 0), (7, .int 2), (0, .ref (adr 53)), (1, .int v1), (2, .int v2), (3, .int v3), (4, .int v4), (5, .int v5), (6, .int v6)]) hx hb dX5_best_133 hl (by decide) rfl (fun ls hl => ?_)
              obtain ⟨n9, h⟩ := h
              exact k_X5_best_135 hN C ih n9 v1 v2 v3 v4 v5 v6 2 0 t15 _ _ _ h hP hS (lv_sub hl [2, 3, 4, 5, 6, 7, 8, 1, 0] rfl)
          · replace h := h.2 c9
            refine lv_iconst (v := 1) hx hb dX5_best_102 (by decide) ?_
            refine lv_goto (tgt := 130) hx hb dX5_best_103 (by decide) ?_
            refine lv_istore (lv' := [(7, .int 1), (0, .ref (adr 53)), (1, .int v1), (2, .int v2), (3, .int v3), (4, .int v4), (5, .int v5), (6, .int v6)]) hx hb dX5_best_130 hl (by decide) rfl (fun ls hl => ?_)
            refine lv_iconst (v := 0) hx hb dX5_best_132 (by decide) ?_
            refine lv_istore (lv' := [(8, .int 0), (7, .int 1), (0, .ref (adr 53)), (1, .int v1), (2, .int v2), (3, .int v3), (4, .int v4), (5, .int v5), (6, .int v6)]) hx hb dX5_best_133 hl (by decide) rfl (fun ls hl => ?_)
            obtain ⟨n9, h⟩ := h
            exact k_X5_best_135 hN C ih n9 v1 v2 v3 v4 v5 v6 1 0 t15 _ _ _ h hP hS (lv_sub hl [2, 3, 4, 5, 6, 7, 8, 1, 0] rfl)

set_option maxHeartbeats 4000000 in
set_option maxRecDepth 100000 in
theorem c_X5_best (l : Launch) (D : va_G) (adr : Nat → Nat) (cs : Nat → ClassId) {N : Nat} (hN : 67 ≤ N) (t : fcS) (a0 : Int32) (a1 : Int32) (a2 : Int32) (post : Int32 → fcS → Prop) (h : q_X5_best t a0 a1 a2 post) : Met l yX5_best wm_X5_best ({ frames := 4, cells := 0, slots := 0, locals := 100 } : Room) (fcPre D adr cs N t [.ref (adr 53), .int a0, .int a1, .int a2]) (fQi D adr cs N post) 0 0 (faN adr N) := by
  refine f_enter (cc := cX5_best) (nL := 11) (ret := some .int) (lv := [(0, .ref (adr 53)), (1, .int a0), (2, .int a1), (3, .int a2)]) (own := RX5) (by decide) rfl (Nat.le_of_ble_eq_true rfl) rfl rfl ?_
  intro p e s m below meth c ls C hP hS hl
  have hx := C.1.1
  have hb := C.1.2.1
  unfold q_X5_best at h
  refine lv_aload_n hx hb dX5_best_0 rfl (lv_at hl 0 rfl) ?_
  refine lv_iconst (v := 0) hx hb dX5_best_1 (by decide) ?_
  refine fr_put C (fsi t 53 0 0) (j := 0) (ty := .int) hP hS (by omega) (fG_MO adr cs t) rfl (fun w h => List.mem_cons_of_mem _ (inl_X5 w h)) tyX5_ok nmX5 (by decide) rfl (List.mem_cons_of_mem _ mw_10_14) rfl (by decide +kernel) rfl rfl (Nat.le_of_ble_eq_true rfl) (fS_MO_0 adr cs t 0) (fG_fsi_ne adr cs t 53 0 0) dX5_best_2 (fun H locs hP hS => ?_)
  obtain ⟨t1, et1⟩ : ∃ y : fcS, y = fsi t 53 0 0 := ⟨_, rfl⟩
  rw [← et1] at hP
  replace h := h t1 et1
  refine lv_iload_n hx hb dX5_best_5 rfl (lv_at hl 1 rfl) ?_
  refine lv_i2l hx hb dX5_best_6 rfl ?_
  refine lv_ldc2 hx hb (v := 3) C.1.2.2.2.1 (C.1.2.2.2.2 _ (List.mem_cons_of_mem _ mw_26_12)) dX5_best_7 ?_
  refine lv_ldc2 hx hb (v := 6) C.1.2.2.2.1 (C.1.2.2.2.2 _ (List.mem_cons_of_mem _ mw_26_13)) dX5_best_10 ?_
  refine fr_ci (fr_runS (n := 3) (rest := []) C (c_X5_in l D adr cs hN t1 ((Int32.toInt64 a0)) 3 6 _ h) hP hS (fgS mw_11_3 mw_11_4 mw_1_5 mw_11_5) rfl rfl rfl (by decide +kernel) ⟨Nat.le_of_ble_eq_true rfl, Nat.le_of_ble_eq_true rfl⟩ rfl hl.1 rfl (Nat.le_of_ble_eq_true rfl) dX5_best_13) hS (fun r3 t2 H locs h hP hS => ?_)
  refine lv_if_eq (tgt := 43) hx hb dX5_best_16 (by decide) (fun c9 => ?_) (fun c9 => ?_)
  · replace h := h.1 c9
    refine lv_iconst (v := (-1)) hx hb dX5_best_43 (by decide) ?_
    exact fr_iret C hP hS h dX5_best_44
  · replace h := h.2 c9
    refine lv_iload_n hx hb dX5_best_19 rfl (lv_at hl 2 rfl) ?_
    refine lv_i2l hx hb dX5_best_20 rfl ?_
    refine lv_lconst (v := 0) hx hb dX5_best_21 (by decide) ?_
    refine lv_ldc2 hx hb (v := 1000000) C.1.2.2.2.1 (C.1.2.2.2.2 _ (List.mem_cons_of_mem _ mw_26_14)) dX5_best_22 ?_
    refine fr_ci (fr_runS (n := 3) (rest := []) C (c_X5_in l D adr cs hN t2 ((Int32.toInt64 a1)) 0 1000000 _ h) hP hS (fgS mw_11_3 mw_11_4 mw_1_5 mw_11_5) rfl rfl rfl (by decide +kernel) ⟨Nat.le_of_ble_eq_true rfl, Nat.le_of_ble_eq_true rfl⟩ rfl hl.1 rfl (Nat.le_of_ble_eq_true rfl) dX5_best_25) hS (fun r5 t4 H locs h hP hS => ?_)
    refine lv_if_eq (tgt := 43) hx hb dX5_best_28 (by decide) (fun c9 => ?_) (fun c9 => ?_)
    · replace h := h.1 c9
      refine lv_iconst (v := (-1)) hx hb dX5_best_43 (by decide) ?_
      exact fr_iret C hP hS h dX5_best_44
    · replace h := h.2 c9
      refine lv_iload_n hx hb dX5_best_31 rfl (lv_at hl 3 rfl) ?_
      refine lv_i2l hx hb dX5_best_32 rfl ?_
      refine lv_lconst (v := 1) hx hb dX5_best_33 (by decide) ?_
      refine lv_ldc2 hx hb (v := 100) C.1.2.2.2.1 (C.1.2.2.2.2 _ (List.mem_cons_of_mem _ mw_26_15)) dX5_best_34 ?_
      refine fr_ci (fr_runS (n := 3) (rest := []) C (c_X5_in l D adr cs hN t4 ((Int32.toInt64 a2)) 1 100 _ h) hP hS (fgS mw_11_3 mw_11_4 mw_1_5 mw_11_5) rfl rfl rfl (by decide +kernel) ⟨Nat.le_of_ble_eq_true rfl, Nat.le_of_ble_eq_true rfl⟩ rfl hl.1 rfl (Nat.le_of_ble_eq_true rfl) dX5_best_37) hS (fun r7 t6 H locs h hP hS => ?_)
      refine lv_if_ne (tgt := 45) hx hb dX5_best_40 (by decide) (fun c9 => ?_) (fun c9 => ?_)
      · replace h := h.1 c9
        refine lv_bipush (v := (-9)) hx hb dX5_best_45 (by decide) ?_
        refine lv_istore (lv' := [(4, .int ((-9))), (0, .ref (adr 53)), (1, .int a0), (2, .int a1), (3, .int a2)]) hx hb dX5_best_47 hl (by decide) rfl (fun ls hl => ?_)
        refine lv_iconst (v := (-1)) hx hb dX5_best_49 (by decide) ?_
        refine lv_istore (lv' := [(5, .int ((-1))), (4, .int ((-9))), (0, .ref (adr 53)), (1, .int a0), (2, .int a1), (3, .int a2)]) hx hb dX5_best_50 hl (by decide) rfl (fun ls hl => ?_)
        refine lv_iload_n hx hb dX5_best_52 rfl (lv_at hl 4 rfl) ?_
        refine lv_istore (lv' := [(6, .int a1), (5, .int ((-1))), (4, .int ((-9))), (0, .ref (adr 53)), (1, .int a0), (2, .int a1), (3, .int a2)]) hx hb dX5_best_53 hl (by decide) rfl (fun ls hl => ?_)
        obtain ⟨n9, h⟩ := h
        exact k_X5_best_55 hN C n9 a0 a1 a2 ((-9)) ((-1)) a1 t6 _ _ _ h hP hS (lv_sub hl [3, 4, 5, 6, 2, 1, 0] rfl)
      · replace h := h.2 c9
        refine lv_iconst (v := (-1)) hx hb dX5_best_43 (by decide) ?_
        exact fr_iret C hP hS h dX5_best_44

/-! X5.hasClasses -/
abbrev wm_X5_hasClasses : List Cond := Cond.code yX5_hasClasses cX5_hasClasses 2 (some .boolean) :: wsL_law
def q_X5_hasClasses (t : fcS) (a0 : Int32) (post : Int32 → fcS → Prop) : Prop := q_X5_isCurve t a0 (fun (r2 : Int32) (t1 : fcS) => (r2 = 0 → (post 0 t1)) ∧ (¬ r2 = 0 → (q_X5_degreeOf t1 a0 (fun (r4 : Int32) (t3 : fcS) => (¬ (2 : Int32) = 0) ∧ ((¬ (irm r4 2) = 1 → (post 0 t3)) ∧ ((irm r4 2) = 1 → (post 1 t3)))))))
set_option maxHeartbeats 4000000 in
set_option maxRecDepth 100000 in
theorem c_X5_hasClasses (l : Launch) (D : va_G) (adr : Nat → Nat) (cs : Nat → ClassId) {N : Nat} (hN : 67 ≤ N) (t : fcS) (a0 : Int32) (post : Int32 → fcS → Prop) (h : q_X5_hasClasses t a0 post) : Met l yX5_hasClasses wm_X5_hasClasses ({ frames := 2, cells := 0, slots := 0, locals := 46 } : Room) (fcPre D adr cs N t [.ref (adr 53), .int a0]) (fQi D adr cs N post) 0 0 (faN adr N) := by
  refine f_enter (cc := cX5_hasClasses) (nL := 2) (ret := some .boolean) (lv := [(0, .ref (adr 53)), (1, .int a0)]) (own := RX5) (by decide) rfl (Nat.le_of_ble_eq_true rfl) rfl rfl ?_
  intro p e s m below meth c ls C hP hS hl
  have hx := C.1.1
  have hb := C.1.2.1
  unfold q_X5_hasClasses at h
  refine lv_aload_n hx hb dX5_hasClasses_0 rfl (lv_at hl 0 rfl) ?_
  refine lv_iload_n hx hb dX5_hasClasses_1 rfl (lv_at hl 1 rfl) ?_
  refine fr_ci (fr_runV (n := 1) (rest := []) C (c_X5_isCurve l D adr cs hN t a0 _ h) hP hS (by omega) (fG_MO adr cs t) rfl (fgV mw_19_23 mw_20_0 mw_20_1 mw_1_5 mw_20_2) rfl rfl rfl (by decide +kernel) ⟨Nat.le_of_ble_eq_true rfl, Nat.le_of_ble_eq_true rfl⟩ rfl hl.1 rfl (Nat.le_of_ble_eq_true rfl) dX5_hasClasses_2) hS (fun r2 t1 H locs h hP hS => ?_)
  refine lv_if_eq (tgt := 23) hx hb dX5_hasClasses_5 (by decide) (fun c9 => ?_) (fun c9 => ?_)
  · replace h := h.1 c9
    refine lv_iconst (v := 0) hx hb dX5_hasClasses_23 (by decide) ?_
    exact fr_zret C hP hS rfl h dX5_hasClasses_24
  · replace h := h.2 c9
    refine lv_aload_n hx hb dX5_hasClasses_8 rfl (lv_at hl 0 rfl) ?_
    refine lv_iload_n hx hb dX5_hasClasses_9 rfl (lv_at hl 1 rfl) ?_
    refine fr_ci (fr_runV (n := 1) (rest := []) C (c_X5_degreeOf l D adr cs hN t1 a0 _ h) hP hS (by omega) (fG_MO adr cs t1) rfl (fgV mw_20_3 mw_20_4 mw_20_5 mw_1_5 mw_20_6) rfl rfl rfl (by decide +kernel) ⟨Nat.le_of_ble_eq_true rfl, Nat.le_of_ble_eq_true rfl⟩ rfl hl.1 rfl (Nat.le_of_ble_eq_true rfl) dX5_hasClasses_10) hS (fun r4 t3 H locs h hP hS => ?_)
    refine lv_iconst (v := 2) hx hb dX5_hasClasses_13 (by decide) ?_
    refine lv_irem hx hb dX5_hasClasses_14 h.1 ?_
    replace h := h.2
    refine lv_iconst (v := 1) hx hb dX5_hasClasses_15 (by decide) ?_
    refine lv_icmp_ne (tgt := 23) hx hb dX5_hasClasses_16 (by decide) (fun c9 => ?_) (fun c9 => ?_)
    · replace h := h.1 c9
      refine lv_iconst (v := 0) hx hb dX5_hasClasses_23 (by decide) ?_
      exact fr_zret C hP hS rfl h dX5_hasClasses_24
    · replace h := h.2 c9
      refine lv_iconst (v := 1) hx hb dX5_hasClasses_19 (by decide) ?_
      refine lv_goto (tgt := 24) hx hb dX5_hasClasses_20 (by decide) ?_
      exact fr_zret C hP hS rfl h dX5_hasClasses_24

/-! X5.goesIn -/
abbrev wm_X5_goesIn : List Cond := Cond.code yX5_goesIn cX5_goesIn 4 (some .boolean) :: wsL_law
def q_X5_goesIn (t : fcS) (a0 : Int32) (a1 : Int32) (a2 : Int32) (post : Int32 → fcS → Prop) : Prop := q_X5_load t 20 a1 (fun (t1 : fcS) => q_X5_load t1 21 a2 (fun (t2 : fcS) => q_X5_multiply t2 22 21 21 (fun (t3 : fcS) => q_X5_loadOwn t3 23 a0 (fun (t4 : fcS) => q_X5_join t4 24 23 22 (((fgi t4 53 1) - 1)) (fun (t5 : fcS) => q_X5_divide t5 25 26 24 20 (fun (t6 : fcS) => q_X5_degree t6 26 (fun (r8 : Int32) (t7 : fcS) => (0 ≤ r8 → (post 0 t7)) ∧ (¬ 0 ≤ r8 → (post 1 t7)))))))))
set_option maxHeartbeats 4000000 in
set_option maxRecDepth 100000 in
theorem c_X5_goesIn (l : Launch) (D : va_G) (adr : Nat → Nat) (cs : Nat → ClassId) {N : Nat} (hN : 67 ≤ N) (t : fcS) (a0 : Int32) (a1 : Int32) (a2 : Int32) (post : Int32 → fcS → Prop) (h : q_X5_goesIn t a0 a1 a2 post) : Met l yX5_goesIn wm_X5_goesIn ({ frames := 2, cells := 0, slots := 0, locals := 52 } : Room) (fcPre D adr cs N t [.ref (adr 53), .int a0, .int a1, .int a2]) (fQi D adr cs N post) 0 0 (faN adr N) := by
  refine f_enter (cc := cX5_goesIn) (nL := 4) (ret := some .boolean) (lv := [(0, .ref (adr 53)), (1, .int a0), (2, .int a1), (3, .int a2)]) (own := RX5) (by decide) rfl (Nat.le_of_ble_eq_true rfl) rfl rfl ?_
  intro p e s m below meth c ls C hP hS hl
  have hx := C.1.1
  have hb := C.1.2.1
  unfold q_X5_goesIn at h
  refine lv_aload_n hx hb dX5_goesIn_0 rfl (lv_at hl 0 rfl) ?_
  refine lv_bipush (v := 20) hx hb dX5_goesIn_1 (by decide) ?_
  refine lv_iload_n hx hb dX5_goesIn_3 rfl (lv_at hl 2 rfl) ?_
  refine fr_cv (fr_runV (n := 2) (rest := []) C (c_X5_load l D adr cs hN t 20 a1 _ h) hP hS (by omega) (fG_MO adr cs t) rfl (fgV mw_8_9 mw_8_10 mw_8_11 mw_1_5 mw_8_12) rfl rfl rfl (by decide +kernel) ⟨Nat.le_of_ble_eq_true rfl, Nat.le_of_ble_eq_true rfl⟩ rfl hl.1 rfl (Nat.le_of_ble_eq_true rfl) dX5_goesIn_4) hS (fun t1 H locs h hP hS => ?_)
  refine lv_aload_n hx hb dX5_goesIn_7 rfl (lv_at hl 0 rfl) ?_
  refine lv_bipush (v := 21) hx hb dX5_goesIn_8 (by decide) ?_
  refine lv_iload_n hx hb dX5_goesIn_10 rfl (lv_at hl 3 rfl) ?_
  refine fr_cv (fr_runV (n := 2) (rest := []) C (c_X5_load l D adr cs hN t1 21 a2 _ h) hP hS (by omega) (fG_MO adr cs t1) rfl (fgV mw_8_9 mw_8_10 mw_8_11 mw_1_5 mw_8_12) rfl rfl rfl (by decide +kernel) ⟨Nat.le_of_ble_eq_true rfl, Nat.le_of_ble_eq_true rfl⟩ rfl hl.1 rfl (Nat.le_of_ble_eq_true rfl) dX5_goesIn_11) hS (fun t2 H locs h hP hS => ?_)
  refine lv_aload_n hx hb dX5_goesIn_14 rfl (lv_at hl 0 rfl) ?_
  refine lv_bipush (v := 22) hx hb dX5_goesIn_15 (by decide) ?_
  refine lv_bipush (v := 21) hx hb dX5_goesIn_17 (by decide) ?_
  refine lv_bipush (v := 21) hx hb dX5_goesIn_19 (by decide) ?_
  refine fr_cv (fr_runV (n := 3) (rest := []) C (c_X5_multiply l D adr cs hN t2 22 21 21 _ h) hP hS (by omega) (fG_MO adr cs t2) rfl (fgV mw_9_21 mw_9_22 mw_9_23 mw_1_5 mw_10_0) rfl rfl rfl (by decide +kernel) ⟨Nat.le_of_ble_eq_true rfl, Nat.le_of_ble_eq_true rfl⟩ rfl hl.1 rfl (Nat.le_of_ble_eq_true rfl) dX5_goesIn_21) hS (fun t3 H locs h hP hS => ?_)
  refine lv_aload_n hx hb dX5_goesIn_24 rfl (lv_at hl 0 rfl) ?_
  refine lv_bipush (v := 23) hx hb dX5_goesIn_25 (by decide) ?_
  refine lv_iload_n hx hb dX5_goesIn_27 rfl (lv_at hl 1 rfl) ?_
  refine fr_cv (fr_runV (n := 2) (rest := []) C (c_X5_loadOwn l D adr cs hN t3 23 a0 _ h) hP hS (by omega) (fG_MO adr cs t3) rfl (fgV mw_20_11 mw_20_12 mw_20_13 mw_1_5 mw_20_14) rfl rfl rfl (by decide +kernel) ⟨Nat.le_of_ble_eq_true rfl, Nat.le_of_ble_eq_true rfl⟩ rfl hl.1 rfl (Nat.le_of_ble_eq_true rfl) dX5_goesIn_28) hS (fun t4 H locs h hP hS => ?_)
  refine lv_aload_n hx hb dX5_goesIn_31 rfl (lv_at hl 0 rfl) ?_
  refine lv_bipush (v := 24) hx hb dX5_goesIn_32 (by decide) ?_
  refine lv_bipush (v := 23) hx hb dX5_goesIn_34 (by decide) ?_
  refine lv_bipush (v := 22) hx hb dX5_goesIn_36 (by decide) ?_
  refine lv_aload_n hx hb dX5_goesIn_38 rfl (lv_at hl 0 rfl) ?_
  refine fr_get (j := 1) C hP (by omega) (fG_MO adr cs t4) rfl (fun w h => List.mem_cons_of_mem _ (inl_X5 w h)) (by decide) rfl (List.mem_cons_of_mem _ mw_7_5) rfl dX5_goesIn_39 ?_
  refine lv_iconst (v := 1) hx hb dX5_goesIn_42 (by decide) ?_
  refine lv_isub hx hb dX5_goesIn_43 ?_
  refine fr_cv (fr_runV (n := 4) (rest := []) C (c_X5_join l D adr cs hN t4 24 23 22 (((fgi t4 53 1) - 1)) _ h) hP hS (by omega) (fG_MO adr cs t4) rfl (fgV mw_18_18 mw_18_19 mw_18_20 mw_1_5 mw_18_21) rfl rfl rfl (by decide +kernel) ⟨Nat.le_of_ble_eq_true rfl, Nat.le_of_ble_eq_true rfl⟩ rfl hl.1 rfl (Nat.le_of_ble_eq_true rfl) dX5_goesIn_44) hS (fun t5 H locs h hP hS => ?_)
  refine lv_aload_n hx hb dX5_goesIn_47 rfl (lv_at hl 0 rfl) ?_
  refine lv_bipush (v := 25) hx hb dX5_goesIn_48 (by decide) ?_
  refine lv_bipush (v := 26) hx hb dX5_goesIn_50 (by decide) ?_
  refine lv_bipush (v := 24) hx hb dX5_goesIn_52 (by decide) ?_
  refine lv_bipush (v := 20) hx hb dX5_goesIn_54 (by decide) ?_
  refine fr_cv (fr_runV (n := 4) (rest := []) C (c_X5_divide l D adr cs hN t5 25 26 24 20 _ h) hP hS (by omega) (fG_MO adr cs t5) rfl (fgV mw_8_13 mw_8_14 mw_8_15 mw_1_5 mw_8_16) rfl rfl rfl (by decide +kernel) ⟨Nat.le_of_ble_eq_true rfl, Nat.le_of_ble_eq_true rfl⟩ rfl hl.1 rfl (Nat.le_of_ble_eq_true rfl) dX5_goesIn_56) hS (fun t6 H locs h hP hS => ?_)
  refine lv_aload_n hx hb dX5_goesIn_59 rfl (lv_at hl 0 rfl) ?_
  refine lv_bipush (v := 26) hx hb dX5_goesIn_60 (by decide) ?_
  refine fr_ci (fr_runV (n := 1) (rest := []) C (c_X5_degree l D adr cs hN t6 26 _ h) hP hS (by omega) (fG_MO adr cs t6) rfl (fgV mw_9_1 mw_9_2 mw_9_3 mw_1_5 mw_9_4) rfl rfl rfl (by decide +kernel) ⟨Nat.le_of_ble_eq_true rfl, Nat.le_of_ble_eq_true rfl⟩ rfl hl.1 rfl (Nat.le_of_ble_eq_true rfl) dX5_goesIn_62) hS (fun r8 t7 H locs h hP hS => ?_)
  refine lv_if_ge (tgt := 72) hx hb dX5_goesIn_65 (by decide) (fun c9 => ?_) (fun c9 => ?_)
  · replace h := h.1 c9
    refine lv_iconst (v := 0) hx hb dX5_goesIn_72 (by decide) ?_
    exact fr_zret C hP hS rfl h dX5_goesIn_73
  · replace h := h.2 c9
    refine lv_iconst (v := 1) hx hb dX5_goesIn_68 (by decide) ?_
    refine lv_goto (tgt := 73) hx hb dX5_goesIn_69 (by decide) ?_
    exact fr_zret C hP hS rfl h dX5_goesIn_73

/-! X5.isClassOf -/
abbrev wm_X5_isClassOf : List Cond := Cond.code yX5_isClassOf cX5_isClassOf 6 (some .boolean) :: wsL_law
def q_X5_isClassOf_6 (post : Int32 → fcS → Prop) : Nat → Int32 → Int32 → Int32 → Int32 → Int32 → fcS → Prop
  | 0, _, _, _, _, _, _ => False
  | n + 1, v1, v2, v3, v4, v5, t => q_X5_genusOf t v1 (fun (r2 : Int32) (t1 : fcS) => (r2 < v5 → (post 0 t1)) ∧ (¬ r2 < v5 → ((v2 < v4 → (∀ x3 : Int32, x3 = (v4 * (fgi t1 53 1)) → (∀ x4 : Int32, x4 = v5 + 1 → (q_X5_isClassOf_6 post n v1 v2 v3 x3 x4 t1)))) ∧ (¬ v2 < v4 → (((2 * v4) ≤ v2 → (∀ x5 : Int32, x5 = (v4 * (fgi t1 53 1)) → (∀ x6 : Int32, x6 = v5 + 1 → (q_X5_isClassOf_6 post n v1 v2 v3 x5 x6 t1)))) ∧ (¬ (2 * v4) ≤ v2 → ((v4 ≤ v3 → (post 0 t1)) ∧ (¬ v4 ≤ v3 → (q_X5_goesIn t1 v1 v2 v3 (fun (r8 : Int32) (t7 : fcS) => (r8 = 0 → (post 0 t7)) ∧ (¬ r8 = 0 → (post 1 t7))))))))))))
def q_X5_isClassOf (t : fcS) (a0 : Int32) (a1 : Int32) (a2 : Int32) (post : Int32 → fcS → Prop) : Prop := ∃ n0, q_X5_isClassOf_6 post n0 a0 a1 a2 1 0 t
set_option maxHeartbeats 4000000 in
set_option maxRecDepth 100000 in
theorem k_X5_isClassOf_6 {D : va_G} {adr : Nat → Nat} {cs : Nat → ClassId} {N : Nat} (hN : 67 ≤ N) {p : Program} {l : Launch} {e : Env} {s : State} {m : MethodId} {args : Array Value} {below : List Frame} {meth : Method} {c : Code} (C : fCx D adr cs N p s m args meth c cX5_isClassOf 6 (some .boolean) RX5 wm_X5_isClassOf) {post : Int32 → fcS → Prop} : ∀ (n : Nat) (v1 : Int32) (v2 : Int32) (v3 : Int32) (v4 : Int32) (v5 : Int32) (t : fcS) (H : Heap) (locs : List Loc) (ls : Array Slot), q_X5_isClassOf_6 post n v1 v2 v3 v4 v5 t → va_P D vwCl (fwl adr N (fG adr cs t)) H → va_S (faN adr N) s.heap H locs → lv_has ls 6 [(0, .ref (adr 53)), (1, .int v1), (2, .int v2), (3, .int v3), (4, .int v4), (5, .int v5)] → W p l e ({ frames := 3, cells := 0, slots := 0, locals := 75 } : Room) s m args below meth c H locs 0 0 (MQ below (fQi D adr cs N post) args s 0 0 (faN adr N)) (F0 m 6 ls []) := by
  have hx := C.1.1
  have hb := C.1.2.1
  intro n
  induction n with
  | zero => intro v1 v2 v3 v4 v5 t H locs ls h; exact False.elim h
  | succ n ih =>
    intro v1 v2 v3 v4 v5 t H locs ls h hP hS hl
    unfold q_X5_isClassOf_6 at h
    refine lv_iload hx hb dX5_isClassOf_6 (lv_at hl 5 rfl) ?_
    refine lv_aload_n hx hb dX5_isClassOf_8 rfl (lv_at hl 0 rfl) ?_
    refine lv_iload_n hx hb dX5_isClassOf_9 rfl (lv_at hl 1 rfl) ?_
    refine fr_ci (fr_runV (n := 1) (rest := [.int v5]) C (c_X5_genusOf l D adr cs hN t v1 _ h) hP hS (by omega) (fG_MO adr cs t) rfl (fgV mw_20_7 mw_20_8 mw_20_9 mw_1_5 mw_20_10) rfl rfl rfl (by decide +kernel) ⟨Nat.le_of_ble_eq_true rfl, Nat.le_of_ble_eq_true rfl⟩ rfl hl.1 rfl (Nat.le_of_ble_eq_true rfl) dX5_isClassOf_10) hS (fun r2 t1 H locs h hP hS => ?_)
    refine lv_icmp_gt (tgt := 67) hx hb dX5_isClassOf_13 (by decide) (fun c9 => ?_) (fun c9 => ?_)
    · replace h := h.1 c9
      refine lv_iconst (v := 0) hx hb dX5_isClassOf_67 (by decide) ?_
      exact fr_zret C hP hS rfl h dX5_isClassOf_68
    · replace h := h.2 c9
      refine lv_iload_n hx hb dX5_isClassOf_16 rfl (lv_at hl 2 rfl) ?_
      refine lv_iload hx hb dX5_isClassOf_17 (lv_at hl 4 rfl) ?_
      refine lv_icmp_lt (tgt := 52) hx hb dX5_isClassOf_19 (by decide) (fun c9 => ?_) (fun c9 => ?_)
      · replace h := h.1 c9
        refine lv_iload hx hb dX5_isClassOf_52 (lv_at hl 4 rfl) ?_
        refine lv_aload_n hx hb dX5_isClassOf_54 rfl (lv_at hl 0 rfl) ?_
        refine fr_get (j := 1) C hP (by omega) (fG_MO adr cs t1) rfl (fun w h => List.mem_cons_of_mem _ (inl_X5 w h)) (by decide) rfl (List.mem_cons_of_mem _ mw_7_5) rfl dX5_isClassOf_55 ?_
        refine lv_imul hx hb dX5_isClassOf_58 ?_
        refine lv_topi (fun x3 ex3 => ?_)
        replace h := h x3 ex3
        refine lv_istore (lv' := [(4, .int x3), (0, .ref (adr 53)), (1, .int v1), (2, .int v2), (3, .int v3), (5, .int v5)]) hx hb dX5_isClassOf_59 hl (by decide) rfl (fun ls hl => ?_)
        obtain ⟨x4, ex4⟩ : ∃ y : Int32, y = v5 + 1 := ⟨_, rfl⟩
        replace h := h x4 ex4
        refine lv_iinc (v := x4) (lv' := [(5, .int x4), (4, .int x3), (0, .ref (adr 53)), (1, .int v1), (2, .int v2), (3, .int v3)]) hx hb dX5_isClassOf_61 hl (k := 5) rfl (by rw [ex4]; rfl) (by decide) rfl (fun ls hl => ?_)
        refine lv_goto (tgt := 6) hx hb dX5_isClassOf_64 (by decide) ?_
        exact ih v1 v2 v3 x3 x4 t1 _ _ _ h hP hS (lv_sub hl [2, 3, 4, 5, 1, 0] rfl)
      · replace h := h.2 c9
        refine lv_iload_n hx hb dX5_isClassOf_22 rfl (lv_at hl 2 rfl) ?_
        refine lv_iconst (v := 2) hx hb dX5_isClassOf_23 (by decide) ?_
        refine lv_iload hx hb dX5_isClassOf_24 (lv_at hl 4 rfl) ?_
        refine lv_imul hx hb dX5_isClassOf_26 ?_
        refine lv_icmp_ge (tgt := 52) hx hb dX5_isClassOf_27 (by decide) (fun c9 => ?_) (fun c9 => ?_)
        · replace h := h.1 c9
          refine lv_iload hx hb dX5_isClassOf_52 (lv_at hl 4 rfl) ?_
          refine lv_aload_n hx hb dX5_isClassOf_54 rfl (lv_at hl 0 rfl) ?_
          refine fr_get (j := 1) C hP (by omega) (fG_MO adr cs t1) rfl (fun w h => List.mem_cons_of_mem _ (inl_X5 w h)) (by decide) rfl (List.mem_cons_of_mem _ mw_7_5) rfl dX5_isClassOf_55 ?_
          refine lv_imul hx hb dX5_isClassOf_58 ?_
          refine lv_topi (fun x5 ex5 => ?_)
          replace h := h x5 ex5
          refine lv_istore (lv' := [(4, .int x5), (0, .ref (adr 53)), (1, .int v1), (2, .int v2), (3, .int v3), (5, .int v5)]) hx hb dX5_isClassOf_59 hl (by decide) rfl (fun ls hl => ?_)
          obtain ⟨x6, ex6⟩ : ∃ y : Int32, y = v5 + 1 := ⟨_, rfl⟩
          replace h := h x6 ex6
          refine lv_iinc (v := x6) (lv' := [(5, .int x6), (4, .int x5), (0, .ref (adr 53)), (1, .int v1), (2, .int v2), (3, .int v3)]) hx hb dX5_isClassOf_61 hl (k := 5) rfl (by rw [ex6]; rfl) (by decide) rfl (fun ls hl => ?_)
          refine lv_goto (tgt := 6) hx hb dX5_isClassOf_64 (by decide) ?_
          exact ih v1 v2 v3 x5 x6 t1 _ _ _ h hP hS (lv_sub hl [2, 3, 4, 5, 1, 0] rfl)
        · replace h := h.2 c9
          refine lv_iload_n hx hb dX5_isClassOf_30 rfl (lv_at hl 3 rfl) ?_
          refine lv_iload hx hb dX5_isClassOf_31 (lv_at hl 4 rfl) ?_
          refine lv_icmp_ge (tgt := 50) hx hb dX5_isClassOf_33 (by decide) (fun c9 => ?_) (fun c9 => ?_)
          · replace h := h.1 c9
            refine lv_iconst (v := 0) hx hb dX5_isClassOf_50 (by decide) ?_
            exact fr_zret C hP hS rfl h dX5_isClassOf_51
          · replace h := h.2 c9
            refine lv_aload_n hx hb dX5_isClassOf_36 rfl (lv_at hl 0 rfl) ?_
            refine lv_iload_n hx hb dX5_isClassOf_37 rfl (lv_at hl 1 rfl) ?_
            refine lv_iload_n hx hb dX5_isClassOf_38 rfl (lv_at hl 2 rfl) ?_
            refine lv_iload_n hx hb dX5_isClassOf_39 rfl (lv_at hl 3 rfl) ?_
            refine fr_ci (fr_runV (n := 3) (rest := []) C (c_X5_goesIn l D adr cs hN t1 v1 v2 v3 _ h) hP hS (by omega) (fG_MO adr cs t1) rfl (fgV mw_27_22 mw_27_23 mw_28_0 mw_1_5 mw_28_1) rfl rfl rfl (by decide +kernel) ⟨Nat.le_of_ble_eq_true rfl, Nat.le_of_ble_eq_true rfl⟩ rfl hl.1 rfl (Nat.le_of_ble_eq_true rfl) dX5_isClassOf_40) hS (fun r8 t7 H locs h hP hS => ?_)
            refine lv_if_eq (tgt := 50) hx hb dX5_isClassOf_43 (by decide) (fun c9 => ?_) (fun c9 => ?_)
            · replace h := h.1 c9
              refine lv_iconst (v := 0) hx hb dX5_isClassOf_50 (by decide) ?_
              exact fr_zret C hP hS rfl h dX5_isClassOf_51
            · replace h := h.2 c9
              refine lv_iconst (v := 1) hx hb dX5_isClassOf_46 (by decide) ?_
              refine lv_goto (tgt := 51) hx hb dX5_isClassOf_47 (by decide) ?_
              exact fr_zret C hP hS rfl h dX5_isClassOf_51

set_option maxHeartbeats 4000000 in
set_option maxRecDepth 100000 in
theorem c_X5_isClassOf (l : Launch) (D : va_G) (adr : Nat → Nat) (cs : Nat → ClassId) {N : Nat} (hN : 67 ≤ N) (t : fcS) (a0 : Int32) (a1 : Int32) (a2 : Int32) (post : Int32 → fcS → Prop) (h : q_X5_isClassOf t a0 a1 a2 post) : Met l yX5_isClassOf wm_X5_isClassOf ({ frames := 3, cells := 0, slots := 0, locals := 75 } : Room) (fcPre D adr cs N t [.ref (adr 53), .int a0, .int a1, .int a2]) (fQi D adr cs N post) 0 0 (faN adr N) := by
  refine f_enter (cc := cX5_isClassOf) (nL := 6) (ret := some .boolean) (lv := [(0, .ref (adr 53)), (1, .int a0), (2, .int a1), (3, .int a2)]) (own := RX5) (by decide) rfl (Nat.le_of_ble_eq_true rfl) rfl rfl ?_
  intro p e s m below meth c ls C hP hS hl
  have hx := C.1.1
  have hb := C.1.2.1
  unfold q_X5_isClassOf at h
  refine lv_iconst (v := 1) hx hb dX5_isClassOf_0 (by decide) ?_
  refine lv_istore (lv' := [(4, .int 1), (0, .ref (adr 53)), (1, .int a0), (2, .int a1), (3, .int a2)]) hx hb dX5_isClassOf_1 hl (by decide) rfl (fun ls hl => ?_)
  refine lv_iconst (v := 0) hx hb dX5_isClassOf_3 (by decide) ?_
  refine lv_istore (lv' := [(5, .int 0), (4, .int 1), (0, .ref (adr 53)), (1, .int a0), (2, .int a1), (3, .int a2)]) hx hb dX5_isClassOf_4 hl (by decide) rfl (fun ls hl => ?_)
  obtain ⟨n9, h⟩ := h
  exact k_X5_isClassOf_6 hN C n9 a0 a1 a2 1 0 t _ _ _ h hP hS (lv_sub hl [2, 3, 4, 5, 1, 0] rfl)

/-! X5.leaves -/
abbrev wm_X5_leaves : List Cond := Cond.code yX5_leaves cX5_leaves 6 (some .boolean) :: wsL_law
def q_X5_leaves (t : fcS) (a0 : Int32) (a1 : Int32) (a2 : Int32) (post : Int32 → fcS → Prop) : Prop := (2 ≤ a2 → ((vp_in 320 640) ∧ (q_X5_left t (((a0 * a0) - ((a1 * a1) * (fga t 60 (Int32.toNatClampNeg 320))))) (fun (r2 : Int32) (t1 : fcS) => (vp_in 321 640) ∧ (q_X5_left t1 ((((2 * a0) * a1) - ((a1 * a1) * (fga t1 60 (Int32.toNatClampNeg 321))))) (fun (r4 : Int32) (t3 : fcS) => (vp_in 416 640) ∧ ((¬ r2 = (fga t3 60 (Int32.toNatClampNeg 416)) → (post 0 t3)) ∧ (r2 = (fga t3 60 (Int32.toNatClampNeg 416)) → ((vp_in 417 640) ∧ ((¬ r4 = (fga t3 60 (Int32.toNatClampNeg 417)) → (post 0 t3)) ∧ (r4 = (fga t3 60 (Int32.toNatClampNeg 417)) → (post 1 t3)))))))))))) ∧ (¬ 2 ≤ a2 → ((a2 = 0 → (post 1 t)) ∧ (¬ a2 = 0 → (q_X5_left t ((a0 * a0)) (fun (r6 : Int32) (t5 : fcS) => (vp_in 416 640) ∧ ((¬ r6 = (fga t5 60 (Int32.toNatClampNeg 416)) → (post 0 t5)) ∧ (r6 = (fga t5 60 (Int32.toNatClampNeg 416)) → (post 1 t5))))))))
set_option maxHeartbeats 4000000 in
set_option maxRecDepth 100000 in
theorem c_X5_leaves (l : Launch) (D : va_G) (adr : Nat → Nat) (cs : Nat → ClassId) {N : Nat} (hN : 67 ≤ N) (t : fcS) (a0 : Int32) (a1 : Int32) (a2 : Int32) (post : Int32 → fcS → Prop) (h : q_X5_leaves t a0 a1 a2 post) : Met l yX5_leaves wm_X5_leaves ({ frames := 1, cells := 0, slots := 0, locals := 22 } : Room) (fcPre D adr cs N t [.ref (adr 53), .int a0, .int a1, .int a2]) (fQi D adr cs N post) 0 0 (faN adr N) := by
  refine f_enter (cc := cX5_leaves) (nL := 6) (ret := some .boolean) (lv := [(0, .ref (adr 53)), (1, .int a0), (2, .int a1), (3, .int a2)]) (own := RX5) (by decide) rfl (Nat.le_of_ble_eq_true rfl) rfl rfl ?_
  intro p e s m below meth c ls C hP hS hl
  have hx := C.1.1
  have hb := C.1.2.1
  unfold q_X5_leaves at h
  refine lv_iload_n hx hb dX5_leaves_0 rfl (lv_at hl 3 rfl) ?_
  refine lv_iconst (v := 2) hx hb dX5_leaves_1 (by decide) ?_
  refine lv_icmp_ge (tgt := 33) hx hb dX5_leaves_2 (by decide) (fun c9 => ?_) (fun c9 => ?_)
  · replace h := h.1 c9
    refine lv_aload_n hx hb dX5_leaves_33 rfl (lv_at hl 0 rfl) ?_
    refine lv_iload_n hx hb dX5_leaves_34 rfl (lv_at hl 1 rfl) ?_
    refine lv_iload_n hx hb dX5_leaves_35 rfl (lv_at hl 1 rfl) ?_
    refine lv_imul hx hb dX5_leaves_36 ?_
    refine lv_iload_n hx hb dX5_leaves_37 rfl (lv_at hl 2 rfl) ?_
    refine lv_iload_n hx hb dX5_leaves_38 rfl (lv_at hl 2 rfl) ?_
    refine lv_imul hx hb dX5_leaves_39 ?_
    refine lv_aload_n hx hb dX5_leaves_40 rfl (lv_at hl 0 rfl) ?_
    refine fr_get (j := 13) C hP (by omega) (fG_MO adr cs t) rfl (fun w h => List.mem_cons_of_mem _ (inl_X5 w h)) (by decide) rfl (List.mem_cons_of_mem _ mw_7_14) rfl dX5_leaves_41 ?_
    refine lv_sipush (v := 320) hx hb dX5_leaves_44 (by decide) ?_
    refine fr_iald C hP (by omega) (fG_60 adr cs t) h.1 dX5_leaves_47 ?_
    replace h := h.2
    refine lv_imul hx hb dX5_leaves_48 ?_
    refine lv_isub hx hb dX5_leaves_49 ?_
    refine fr_ci (fr_runV (n := 1) (rest := []) C (c_X5_left l D adr cs hN t (((a0 * a0) - ((a1 * a1) * (fga t 60 (Int32.toNatClampNeg 320))))) _ h) hP hS (by omega) (fG_MO adr cs t) rfl (fgV mw_9_9 mw_9_10 mw_9_11 mw_1_5 mw_9_12) rfl rfl rfl (by decide +kernel) ⟨Nat.le_of_ble_eq_true rfl, Nat.le_of_ble_eq_true rfl⟩ rfl hl.1 rfl (Nat.le_of_ble_eq_true rfl) dX5_leaves_50) hS (fun r2 t1 H locs h hP hS => ?_)
    refine lv_istore (lv' := [(4, .int r2), (0, .ref (adr 53)), (1, .int a0), (2, .int a1), (3, .int a2)]) hx hb dX5_leaves_53 hl (by decide) rfl (fun ls hl => ?_)
    refine lv_aload_n hx hb dX5_leaves_55 rfl (lv_at hl 1 rfl) ?_
    refine lv_iconst (v := 2) hx hb dX5_leaves_56 (by decide) ?_
    refine lv_iload_n hx hb dX5_leaves_57 rfl (lv_at hl 2 rfl) ?_
    refine lv_imul hx hb dX5_leaves_58 ?_
    refine lv_iload_n hx hb dX5_leaves_59 rfl (lv_at hl 3 rfl) ?_
    refine lv_imul hx hb dX5_leaves_60 ?_
    refine lv_iload_n hx hb dX5_leaves_61 rfl (lv_at hl 3 rfl) ?_
    refine lv_iload_n hx hb dX5_leaves_62 rfl (lv_at hl 3 rfl) ?_
    refine lv_imul hx hb dX5_leaves_63 ?_
    refine lv_aload_n hx hb dX5_leaves_64 rfl (lv_at hl 1 rfl) ?_
    refine fr_get (j := 13) C hP (by omega) (fG_MO adr cs t1) rfl (fun w h => List.mem_cons_of_mem _ (inl_X5 w h)) (by decide) rfl (List.mem_cons_of_mem _ mw_7_14) rfl dX5_leaves_65 ?_
    refine lv_sipush (v := 321) hx hb dX5_leaves_68 (by decide) ?_
    refine fr_iald C hP (by omega) (fG_60 adr cs t1) h.1 dX5_leaves_71 ?_
    replace h := h.2
    refine lv_imul hx hb dX5_leaves_72 ?_
    refine lv_isub hx hb dX5_leaves_73 ?_
    refine fr_ci (fr_runV (n := 1) (rest := []) C (c_X5_left l D adr cs hN t1 ((((2 * a0) * a1) - ((a1 * a1) * (fga t1 60 (Int32.toNatClampNeg 321))))) _ h) hP hS (by omega) (fG_MO adr cs t1) rfl (fgV mw_9_9 mw_9_10 mw_9_11 mw_1_5 mw_9_12) rfl rfl rfl (by decide +kernel) ⟨Nat.le_of_ble_eq_true rfl, Nat.le_of_ble_eq_true rfl⟩ rfl hl.1 rfl (Nat.le_of_ble_eq_true rfl) dX5_leaves_74) hS (fun r4 t3 H locs h hP hS => ?_)
    refine lv_istore (lv' := [(5, .int r4), (4, .int r2), (0, .ref (adr 53)), (1, .int a0), (2, .int a1), (3, .int a2)]) hx hb dX5_leaves_77 hl (by decide) rfl (fun ls hl => ?_)
    refine lv_iload hx hb dX5_leaves_79 (lv_at hl 1 rfl) ?_
    refine lv_aload_n hx hb dX5_leaves_81 rfl (lv_at hl 2 rfl) ?_
    refine fr_get (j := 13) C hP (by omega) (fG_MO adr cs t3) rfl (fun w h => List.mem_cons_of_mem _ (inl_X5 w h)) (by decide) rfl (List.mem_cons_of_mem _ mw_7_14) rfl dX5_leaves_82 ?_
    refine lv_sipush (v := 416) hx hb dX5_leaves_85 (by decide) ?_
    refine fr_iald C hP (by omega) (fG_60 adr cs t3) h.1 dX5_leaves_88 ?_
    replace h := h.2
    refine lv_icmp_ne (tgt := 109) hx hb dX5_leaves_89 (by decide) (fun c9 => ?_) (fun c9 => ?_)
    · replace h := h.1 c9
      refine lv_iconst (v := 0) hx hb dX5_leaves_109 (by decide) ?_
      exact fr_zret C hP hS rfl h dX5_leaves_110
    · replace h := h.2 c9
      refine lv_iload hx hb dX5_leaves_92 (lv_at hl 0 rfl) ?_
      refine lv_aload_n hx hb dX5_leaves_94 rfl (lv_at hl 2 rfl) ?_
      refine fr_get (j := 13) C hP (by omega) (fG_MO adr cs t3) rfl (fun w h => List.mem_cons_of_mem _ (inl_X5 w h)) (by decide) rfl (List.mem_cons_of_mem _ mw_7_14) rfl dX5_leaves_95 ?_
      refine lv_sipush (v := 417) hx hb dX5_leaves_98 (by decide) ?_
      refine fr_iald C hP (by omega) (fG_60 adr cs t3) h.1 dX5_leaves_101 ?_
      replace h := h.2
      refine lv_icmp_ne (tgt := 109) hx hb dX5_leaves_102 (by decide) (fun c9 => ?_) (fun c9 => ?_)
      · replace h := h.1 c9
        refine lv_iconst (v := 0) hx hb dX5_leaves_109 (by decide) ?_
        exact fr_zret C hP hS rfl h dX5_leaves_110
      · replace h := h.2 c9
        refine lv_iconst (v := 1) hx hb dX5_leaves_105 (by decide) ?_
        refine lv_goto (tgt := 110) hx hb dX5_leaves_106 (by decide) ?_
        exact fr_zret C hP hS rfl h dX5_leaves_110
  · replace h := h.2 c9
    refine lv_iload_n hx hb dX5_leaves_5 rfl (lv_at hl 3 rfl) ?_
    refine lv_if_eq (tgt := 27) hx hb dX5_leaves_6 (by decide) (fun c9 => ?_) (fun c9 => ?_)
    · replace h := h.1 c9
      refine lv_iconst (v := 1) hx hb dX5_leaves_27 (by decide) ?_
      refine lv_goto (tgt := 32) hx hb dX5_leaves_28 (by decide) ?_
      exact fr_zret C hP hS rfl h dX5_leaves_32
    · replace h := h.2 c9
      refine lv_aload_n hx hb dX5_leaves_9 rfl (lv_at hl 0 rfl) ?_
      refine lv_iload_n hx hb dX5_leaves_10 rfl (lv_at hl 1 rfl) ?_
      refine lv_iload_n hx hb dX5_leaves_11 rfl (lv_at hl 1 rfl) ?_
      refine lv_imul hx hb dX5_leaves_12 ?_
      refine fr_ci (fr_runV (n := 1) (rest := []) C (c_X5_left l D adr cs hN t ((a0 * a0)) _ h) hP hS (by omega) (fG_MO adr cs t) rfl (fgV mw_9_9 mw_9_10 mw_9_11 mw_1_5 mw_9_12) rfl rfl rfl (by decide +kernel) ⟨Nat.le_of_ble_eq_true rfl, Nat.le_of_ble_eq_true rfl⟩ rfl hl.1 rfl (Nat.le_of_ble_eq_true rfl) dX5_leaves_13) hS (fun r6 t5 H locs h hP hS => ?_)
      refine lv_aload_n hx hb dX5_leaves_16 rfl (lv_at hl 0 rfl) ?_
      refine fr_get (j := 13) C hP (by omega) (fG_MO adr cs t5) rfl (fun w h => List.mem_cons_of_mem _ (inl_X5 w h)) (by decide) rfl (List.mem_cons_of_mem _ mw_7_14) rfl dX5_leaves_17 ?_
      refine lv_sipush (v := 416) hx hb dX5_leaves_20 (by decide) ?_
      refine fr_iald C hP (by omega) (fG_60 adr cs t5) h.1 dX5_leaves_23 ?_
      replace h := h.2
      refine lv_icmp_ne (tgt := 31) hx hb dX5_leaves_24 (by decide) (fun c9 => ?_) (fun c9 => ?_)
      · replace h := h.1 c9
        refine lv_iconst (v := 0) hx hb dX5_leaves_31 (by decide) ?_
        exact fr_zret C hP hS rfl h dX5_leaves_32
      · replace h := h.2 c9
        refine lv_iconst (v := 1) hx hb dX5_leaves_27 (by decide) ?_
        refine lv_goto (tgt := 32) hx hb dX5_leaves_28 (by decide) ?_
        exact fr_zret C hP hS rfl h dX5_leaves_32

/-! X5.needClasses -/
abbrev wm_X5_needClasses : List Cond := Cond.code yX5_needClasses cX5_needClasses 6 none :: wsL_law
def q_X5_needClasses_73 (post : fcS → Prop) (k23 : Int32 → Int32 → Int32 → fcS → Prop) (k35 : Int32 → Int32 → Int32 → Int32 → fcS → Prop) : Nat → Int32 → Int32 → Int32 → Int32 → Int32 → fcS → Prop
  | 0, _, _, _, _, _, _ => False
  | n + 1, v1, v2, v3, v4, v5, t => (v2 ≤ v5 → (∀ x10 : Int32, x10 = v4 + 1 → (k35 v1 v2 v3 x10 t))) ∧ (¬ v2 ≤ v5 → ((¬ ((fgi t 53 1) : Int32) = 0) ∧ ((¬ ((fgi t 53 1) : Int32) = 0) ∧ (q_X5_leaves t ((irm v5 ((fgi t 53 1)))) ((v5 / (fgi t 53 1))) v3 (fun (r12 : Int32) (t11 : fcS) => (r12 = 0 → (∀ x13 : Int32, x13 = v5 + 1 → (q_X5_needClasses_73 post k23 k35 n v1 v2 v3 v4 x13 t11))) ∧ (¬ r12 = 0 → ((vp_in ((fgi t11 53 17)) 600) ∧ (∀ t14 : fcS, t14 = fsa t11 62 (Int32.toNatClampNeg ((fgi t11 53 17))) v4 → ((vp_in ((fgi t14 53 17)) 600) ∧ (∀ t15 : fcS, t15 = fsa t14 63 (Int32.toNatClampNeg ((fgi t14 53 17))) v5 → (∀ t16 : fcS, t16 = fsi t15 53 17 (((fgi t15 53 17) + 1)) → (∀ x17 : Int32, x17 = v5 + 1 → (q_X5_needClasses_73 post k23 k35 n v1 v2 v3 v4 x17 t16)))))))))))))
def q_X5_needClasses_35 (post : fcS → Prop) (k23 : Int32 → Int32 → Int32 → fcS → Prop) : Nat → Int32 → Int32 → Int32 → Int32 → fcS → Prop
  | 0, _, _, _, _, _ => False
  | n + 1, v1, v2, v3, v4, t => ((2 * v2) ≤ v4 → (∀ x5 : Int32, x5 = (v2 * (fgi t 53 1)) → (∀ x6 : Int32, x6 = v3 + 1 → (k23 v1 x5 x6 t)))) ∧ (¬ (2 * v2) ≤ v4 → (q_X5_load t 20 v4 (fun (t7 : fcS) => q_X5_loadOwn t7 23 v1 (fun (t8 : fcS) => q_X5_divide t8 25 26 23 20 (fun (t9 : fcS) => ∃ n0, q_X5_needClasses_73 post k23 (fun v1_ v2_ v3_ v4_ t_ => q_X5_needClasses_35 post k23 n v1_ v2_ v3_ v4_ t_) n0 v1 v2 v3 v4 0 t9)))))
def q_X5_needClasses_23 (post : fcS → Prop) : Nat → Int32 → Int32 → Int32 → fcS → Prop
  | 0, _, _, _, _ => False
  | n + 1, v1, v2, v3, t => q_X5_genusOf t v1 (fun (r4 : Int32) (t3 : fcS) => (r4 < v3 → (post t3)) ∧ (¬ r4 < v3 → (∃ n0, q_X5_needClasses_35 post (fun v1_ v2_ v3_ t_ => q_X5_needClasses_23 post n v1_ v2_ v3_ t_) n0 v1 v2 v3 v2 t3)))
def q_X5_needClasses (t : fcS) (a0 : Int32) (post : fcS → Prop) : Prop := (¬ (fgi t 53 16) = a0 → (∀ t1 : fcS, t1 = fsi t 53 16 a0 → (∀ t2 : fcS, t2 = fsi t1 53 17 0 → (∃ n0, q_X5_needClasses_23 post n0 a0 1 0 t2)))) ∧ ((fgi t 53 16) = a0 → (post t))
set_option maxHeartbeats 4000000 in
set_option maxRecDepth 100000 in
theorem k_X5_needClasses_73 {D : va_G} {adr : Nat → Nat} {cs : Nat → ClassId} {N : Nat} (hN : 67 ≤ N) {p : Program} {l : Launch} {e : Env} {s : State} {m : MethodId} {args : Array Value} {below : List Frame} {meth : Method} {c : Code} (C : fCx D adr cs N p s m args meth c cX5_needClasses 6 (none) RX5 wm_X5_needClasses) {post : fcS → Prop} {k23 : Int32 → Int32 → Int32 → fcS → Prop} (hk23 : ∀ (v1 : Int32) (v2 : Int32) (v3 : Int32) (t : fcS) (H : Heap) (locs : List Loc) (ls : Array Slot), k23 v1 v2 v3 t → va_P D vwCl (fwl adr N (fG adr cs t)) H → va_S (faN adr N) s.heap H locs → lv_has ls 6 [(0, .ref (adr 53)), (1, .int v1), (2, .int v2), (3, .int v3)] → W p l e ({ frames := 2, cells := 0, slots := 0, locals := 52 } : Room) s m args below meth c H locs 0 0 (MQ below (fQv D adr cs N post) args s 0 0 (faN adr N)) (F0 m 23 ls [])) {k35 : Int32 → Int32 → Int32 → Int32 → fcS → Prop} (hk35 : ∀ (v1 : Int32) (v2 : Int32) (v3 : Int32) (v4 : Int32) (t : fcS) (H : Heap) (locs : List Loc) (ls : Array Slot), k35 v1 v2 v3 v4 t → va_P D vwCl (fwl adr N (fG adr cs t)) H → va_S (faN adr N) s.heap H locs → lv_has ls 6 [(0, .ref (adr 53)), (1, .int v1), (2, .int v2), (3, .int v3), (4, .int v4)] → W p l e ({ frames := 2, cells := 0, slots := 0, locals := 52 } : Room) s m args below meth c H locs 0 0 (MQ below (fQv D adr cs N post) args s 0 0 (faN adr N)) (F0 m 35 ls [])) : ∀ (n : Nat) (v1 : Int32) (v2 : Int32) (v3 : Int32) (v4 : Int32) (v5 : Int32) (t : fcS) (H : Heap) (locs : List Loc) (ls : Array Slot), q_X5_needClasses_73 post k23 k35 n v1 v2 v3 v4 v5 t → va_P D vwCl (fwl adr N (fG adr cs t)) H → va_S (faN adr N) s.heap H locs → lv_has ls 6 [(0, .ref (adr 53)), (1, .int v1), (2, .int v2), (3, .int v3), (4, .int v4), (5, .int v5)] → W p l e ({ frames := 2, cells := 0, slots := 0, locals := 52 } : Room) s m args below meth c H locs 0 0 (MQ below (fQv D adr cs N post) args s 0 0 (faN adr N)) (F0 m 73 ls []) := by
  have hx := C.1.1
  have hb := C.1.2.1
  intro n
  induction n with
  | zero => intro v1 v2 v3 v4 v5 t H locs ls h; exact False.elim h
  | succ n ih =>
    intro v1 v2 v3 v4 v5 t H locs ls h hP hS hl
    unfold q_X5_needClasses_73 at h
    refine lv_iload hx hb dX5_needClasses_73 (lv_at hl 5 rfl) ?_
    refine lv_iload_n hx hb dX5_needClasses_75 rfl (lv_at hl 2 rfl) ?_
    refine lv_icmp_ge (tgt := 139) hx hb dX5_needClasses_76 (by decide) (fun c9 => ?_) (fun c9 => ?_)
    · replace h := h.1 c9
      obtain ⟨x10, ex10⟩ : ∃ y : Int32, y = v4 + 1 := ⟨_, rfl⟩
      replace h := h x10 ex10
      refine lv_iinc (v := x10) (lv' := [(4, .int x10), (0, .ref (adr 53)), (1, .int v1), (2, .int v2), (3, .int v3), (5, .int v5)]) hx hb dX5_needClasses_139 hl (k := 4) rfl (by rw [ex10]; rfl) (by decide) rfl (fun ls hl => ?_)
      refine lv_goto (tgt := 35) hx hb dX5_needClasses_142 (by decide) ?_
      exact hk35 v1 v2 v3 x10 t _ _ _ h hP hS (lv_sub hl [1, 2, 3, 4, 0] rfl)
    · replace h := h.2 c9
      refine lv_aload_n hx hb dX5_needClasses_79 rfl (lv_at hl 0 rfl) ?_
      refine lv_iload hx hb dX5_needClasses_80 (lv_at hl 5 rfl) ?_
      refine lv_aload_n hx hb dX5_needClasses_82 rfl (lv_at hl 0 rfl) ?_
      refine fr_get (j := 1) C hP (by omega) (fG_MO adr cs t) rfl (fun w h => List.mem_cons_of_mem _ (inl_X5 w h)) (by decide) rfl (List.mem_cons_of_mem _ mw_7_5) rfl dX5_needClasses_83 ?_
      refine lv_irem hx hb dX5_needClasses_86 h.1 ?_
      replace h := h.2
      refine lv_iload hx hb dX5_needClasses_87 (lv_at hl 5 rfl) ?_
      refine lv_aload_n hx hb dX5_needClasses_89 rfl (lv_at hl 0 rfl) ?_
      refine fr_get (j := 1) C hP (by omega) (fG_MO adr cs t) rfl (fun w h => List.mem_cons_of_mem _ (inl_X5 w h)) (by decide) rfl (List.mem_cons_of_mem _ mw_7_5) rfl dX5_needClasses_90 ?_
      refine lv_idiv hx hb dX5_needClasses_93 h.1 ?_
      replace h := h.2
      refine lv_iload_n hx hb dX5_needClasses_94 rfl (lv_at hl 3 rfl) ?_
      refine fr_ci (fr_runV (n := 3) (rest := []) C (c_X5_leaves l D adr cs hN t ((irm v5 ((fgi t 53 1)))) ((v5 / (fgi t 53 1))) v3 _ h) hP hS (by omega) (fG_MO adr cs t) rfl (fgV mw_29_7 mw_29_8 mw_29_9 mw_1_5 mw_29_10) rfl rfl rfl (by decide +kernel) ⟨Nat.le_of_ble_eq_true rfl, Nat.le_of_ble_eq_true rfl⟩ rfl hl.1 rfl (Nat.le_of_ble_eq_true rfl) dX5_needClasses_95) hS (fun r12 t11 H locs h hP hS => ?_)
      refine lv_if_eq (tgt := 133) hx hb dX5_needClasses_98 (by decide) (fun c9 => ?_) (fun c9 => ?_)
      · replace h := h.1 c9
        obtain ⟨x13, ex13⟩ : ∃ y : Int32, y = v5 + 1 := ⟨_, rfl⟩
        replace h := h x13 ex13
        refine lv_iinc (v := x13) (lv' := [(5, .int x13), (0, .ref (adr 53)), (1, .int v1), (2, .int v2), (3, .int v3), (4, .int v4)]) hx hb dX5_needClasses_133 hl (k := 5) rfl (by rw [ex13]; rfl) (by decide) rfl (fun ls hl => ?_)
        refine lv_goto (tgt := 73) hx hb dX5_needClasses_136 (by decide) ?_
        exact ih v1 v2 v3 v4 x13 t11 _ _ _ h hP hS (lv_sub hl [1, 2, 3, 4, 5, 0] rfl)
      · replace h := h.2 c9
        refine lv_aload_n hx hb dX5_needClasses_101 rfl (lv_at hl 0 rfl) ?_
        refine fr_get (j := 18) C hP (by omega) (fG_MO adr cs t11) rfl (fun w h => List.mem_cons_of_mem _ (inl_X5 w h)) (by decide) rfl (List.mem_cons_of_mem _ mw_7_17) rfl dX5_needClasses_102 ?_
        refine lv_aload_n hx hb dX5_needClasses_105 rfl (lv_at hl 0 rfl) ?_
        refine fr_get (j := 17) C hP (by omega) (fG_MO adr cs t11) rfl (fun w h => List.mem_cons_of_mem _ (inl_X5 w h)) (by decide) rfl (List.mem_cons_of_mem _ mw_29_2) rfl dX5_needClasses_106 ?_
        refine lv_iload hx hb dX5_needClasses_109 (lv_at hl 4 rfl) ?_
        refine fr_iast C hP hS (by omega) (fun u => (fG_62 adr cs u)) h.1 dX5_needClasses_111 (fun H locs hP hS => ?_)
        obtain ⟨t14, et14⟩ : ∃ y : fcS, y = fsa t11 62 (Int32.toNatClampNeg ((fgi t11 53 17))) v4 := ⟨_, rfl⟩
        rw [← et14] at hP
        replace h := h.2 t14 et14
        refine lv_aload_n hx hb dX5_needClasses_112 rfl (lv_at hl 0 rfl) ?_
        refine fr_get (j := 19) C hP (by omega) (fG_MO adr cs t14) rfl (fun w h => List.mem_cons_of_mem _ (inl_X5 w h)) (by decide) rfl (List.mem_cons_of_mem _ mw_7_18) rfl dX5_needClasses_113 ?_
        refine lv_aload_n hx hb dX5_needClasses_116 rfl (lv_at hl 0 rfl) ?_
        refine fr_get (j := 17) C hP (by omega) (fG_MO adr cs t14) rfl (fun w h => List.mem_cons_of_mem _ (inl_X5 w h)) (by decide) rfl (List.mem_cons_of_mem _ mw_29_2) rfl dX5_needClasses_117 ?_
        refine lv_iload hx hb dX5_needClasses_120 (lv_at hl 5 rfl) ?_
        refine fr_iast C hP hS (by omega) (fun u => (fG_63 adr cs u)) h.1 dX5_needClasses_122 (fun H locs hP hS => ?_)
        obtain ⟨t15, et15⟩ : ∃ y : fcS, y = fsa t14 63 (Int32.toNatClampNeg ((fgi t14 53 17))) v5 := ⟨_, rfl⟩
        rw [← et15] at hP
        replace h := h.2 t15 et15
        refine lv_aload_n hx hb dX5_needClasses_123 rfl (lv_at hl 0 rfl) ?_
        refine lv_dup hx hb dX5_needClasses_124 rfl ?_
        refine fr_get (j := 17) C hP (by omega) (fG_MO adr cs t15) rfl (fun w h => List.mem_cons_of_mem _ (inl_X5 w h)) (by decide) rfl (List.mem_cons_of_mem _ mw_29_2) rfl dX5_needClasses_125 ?_
        refine lv_iconst (v := 1) hx hb dX5_needClasses_128 (by decide) ?_
        refine lv_iadd hx hb dX5_needClasses_129 ?_
        refine fr_put C (fsi t15 53 17 (((fgi t15 53 17) + 1))) (j := 17) (ty := .int) hP hS (by omega) (fG_MO adr cs t15) rfl (fun w h => List.mem_cons_of_mem _ (inl_X5 w h)) tyX5_ok nmX5 (by decide) rfl (List.mem_cons_of_mem _ mw_29_2) rfl (by decide +kernel) rfl rfl (Nat.le_of_ble_eq_true rfl) (fS_MO_17 adr cs t15 (((fgi t15 53 17) + 1))) (fG_fsi_ne adr cs t15 53 17 (((fgi t15 53 17) + 1))) dX5_needClasses_130 (fun H locs hP hS => ?_)
        obtain ⟨t16, et16⟩ : ∃ y : fcS, y = fsi t15 53 17 (((fgi t15 53 17) + 1)) := ⟨_, rfl⟩
        rw [← et16] at hP
        replace h := h t16 et16
        obtain ⟨x17, ex17⟩ : ∃ y : Int32, y = v5 + 1 := ⟨_, rfl⟩
        replace h := h x17 ex17
        refine lv_iinc (v := x17) (lv' := [(5, .int x17), (0, .ref (adr 53)), (1, .int v1), (2, .int v2), (3, .int v3), (4, .int v4)]) hx hb dX5_needClasses_133 hl (k := 5) rfl (by rw [ex17]; rfl) (by decide) rfl (fun ls hl => ?_)
        refine lv_goto (tgt := 73) hx hb dX5_needClasses_136 (by decide) ?_
        exact ih v1 v2 v3 v4 x17 t16 _ _ _ h hP hS (lv_sub hl [1, 2, 3, 4, 5, 0] rfl)

set_option maxHeartbeats 4000000 in
set_option maxRecDepth 100000 in
theorem k_X5_needClasses_35 {D : va_G} {adr : Nat → Nat} {cs : Nat → ClassId} {N : Nat} (hN : 67 ≤ N) {p : Program} {l : Launch} {e : Env} {s : State} {m : MethodId} {args : Array Value} {below : List Frame} {meth : Method} {c : Code} (C : fCx D adr cs N p s m args meth c cX5_needClasses 6 (none) RX5 wm_X5_needClasses) {post : fcS → Prop} {k23 : Int32 → Int32 → Int32 → fcS → Prop} (hk23 : ∀ (v1 : Int32) (v2 : Int32) (v3 : Int32) (t : fcS) (H : Heap) (locs : List Loc) (ls : Array Slot), k23 v1 v2 v3 t → va_P D vwCl (fwl adr N (fG adr cs t)) H → va_S (faN adr N) s.heap H locs → lv_has ls 6 [(0, .ref (adr 53)), (1, .int v1), (2, .int v2), (3, .int v3)] → W p l e ({ frames := 2, cells := 0, slots := 0, locals := 52 } : Room) s m args below meth c H locs 0 0 (MQ below (fQv D adr cs N post) args s 0 0 (faN adr N)) (F0 m 23 ls [])) : ∀ (n : Nat) (v1 : Int32) (v2 : Int32) (v3 : Int32) (v4 : Int32) (t : fcS) (H : Heap) (locs : List Loc) (ls : Array Slot), q_X5_needClasses_35 post k23 n v1 v2 v3 v4 t → va_P D vwCl (fwl adr N (fG adr cs t)) H → va_S (faN adr N) s.heap H locs → lv_has ls 6 [(0, .ref (adr 53)), (1, .int v1), (2, .int v2), (3, .int v3), (4, .int v4)] → W p l e ({ frames := 2, cells := 0, slots := 0, locals := 52 } : Room) s m args below meth c H locs 0 0 (MQ below (fQv D adr cs N post) args s 0 0 (faN adr N)) (F0 m 35 ls []) := by
  have hx := C.1.1
  have hb := C.1.2.1
  intro n
  induction n with
  | zero => intro v1 v2 v3 v4 t H locs ls h; exact False.elim h
  | succ n ih =>
    intro v1 v2 v3 v4 t H locs ls h hP hS hl
    unfold q_X5_needClasses_35 at h
    refine lv_iload hx hb dX5_needClasses_35 (lv_at hl 4 rfl) ?_
    refine lv_iconst (v := 2) hx hb dX5_needClasses_37 (by decide) ?_
    refine lv_iload_n hx hb dX5_needClasses_38 rfl (lv_at hl 2 rfl) ?_
    refine lv_imul hx hb dX5_needClasses_39 ?_
    refine lv_icmp_ge (tgt := 145) hx hb dX5_needClasses_40 (by decide) (fun c9 => ?_) (fun c9 => ?_)
    · replace h := h.1 c9
      refine lv_iload_n hx hb dX5_needClasses_145 rfl (lv_at hl 2 rfl) ?_
      refine lv_aload_n hx hb dX5_needClasses_146 rfl (lv_at hl 0 rfl) ?_
      refine fr_get (j := 1) C hP (by omega) (fG_MO adr cs t) rfl (fun w h => List.mem_cons_of_mem _ (inl_X5 w h)) (by decide) rfl (List.mem_cons_of_mem _ mw_7_5) rfl dX5_needClasses_147 ?_
      refine lv_imul hx hb dX5_needClasses_150 ?_
      refine lv_topi (fun x5 ex5 => ?_)
      replace h := h x5 ex5
      refine lv_istore_n (lv' := [(2, .int x5), (0, .ref (adr 53)), (1, .int v1), (3, .int v3), (4, .int v4)]) hx hb dX5_needClasses_151 rfl hl (by decide) rfl (fun ls hl => ?_)
      obtain ⟨x6, ex6⟩ : ∃ y : Int32, y = v3 + 1 := ⟨_, rfl⟩
      replace h := h x6 ex6
      refine lv_iinc (v := x6) (lv' := [(3, .int x6), (2, .int x5), (0, .ref (adr 53)), (1, .int v1), (4, .int v4)]) hx hb dX5_needClasses_152 hl (k := 3) rfl (by rw [ex6]; rfl) (by decide) rfl (fun ls hl => ?_)
      refine lv_goto (tgt := 23) hx hb dX5_needClasses_155 (by decide) ?_
      exact hk23 v1 x5 x6 t _ _ _ h hP hS (lv_sub hl [2, 3, 1, 0] rfl)
    · replace h := h.2 c9
      refine lv_aload_n hx hb dX5_needClasses_43 rfl (lv_at hl 0 rfl) ?_
      refine lv_bipush (v := 20) hx hb dX5_needClasses_44 (by decide) ?_
      refine lv_iload hx hb dX5_needClasses_46 (lv_at hl 4 rfl) ?_
      refine fr_cv (fr_runV (n := 2) (rest := []) C (c_X5_load l D adr cs hN t 20 v4 _ h) hP hS (by omega) (fG_MO adr cs t) rfl (fgV mw_8_9 mw_8_10 mw_8_11 mw_1_5 mw_8_12) rfl rfl rfl (by decide +kernel) ⟨Nat.le_of_ble_eq_true rfl, Nat.le_of_ble_eq_true rfl⟩ rfl hl.1 rfl (Nat.le_of_ble_eq_true rfl) dX5_needClasses_48) hS (fun t7 H locs h hP hS => ?_)
      refine lv_aload_n hx hb dX5_needClasses_51 rfl (lv_at hl 0 rfl) ?_
      refine lv_bipush (v := 23) hx hb dX5_needClasses_52 (by decide) ?_
      refine lv_iload_n hx hb dX5_needClasses_54 rfl (lv_at hl 1 rfl) ?_
      refine fr_cv (fr_runV (n := 2) (rest := []) C (c_X5_loadOwn l D adr cs hN t7 23 v1 _ h) hP hS (by omega) (fG_MO adr cs t7) rfl (fgV mw_20_11 mw_20_12 mw_20_13 mw_1_5 mw_20_14) rfl rfl rfl (by decide +kernel) ⟨Nat.le_of_ble_eq_true rfl, Nat.le_of_ble_eq_true rfl⟩ rfl hl.1 rfl (Nat.le_of_ble_eq_true rfl) dX5_needClasses_55) hS (fun t8 H locs h hP hS => ?_)
      refine lv_aload_n hx hb dX5_needClasses_58 rfl (lv_at hl 0 rfl) ?_
      refine lv_bipush (v := 25) hx hb dX5_needClasses_59 (by decide) ?_
      refine lv_bipush (v := 26) hx hb dX5_needClasses_61 (by decide) ?_
      refine lv_bipush (v := 23) hx hb dX5_needClasses_63 (by decide) ?_
      refine lv_bipush (v := 20) hx hb dX5_needClasses_65 (by decide) ?_
      refine fr_cv (fr_runV (n := 4) (rest := []) C (c_X5_divide l D adr cs hN t8 25 26 23 20 _ h) hP hS (by omega) (fG_MO adr cs t8) rfl (fgV mw_8_13 mw_8_14 mw_8_15 mw_1_5 mw_8_16) rfl rfl rfl (by decide +kernel) ⟨Nat.le_of_ble_eq_true rfl, Nat.le_of_ble_eq_true rfl⟩ rfl hl.1 rfl (Nat.le_of_ble_eq_true rfl) dX5_needClasses_67) hS (fun t9 H locs h hP hS => ?_)
      refine lv_iconst (v := 0) hx hb dX5_needClasses_70 (by decide) ?_
      refine lv_istore (lv' := [(5, .int 0), (0, .ref (adr 53)), (1, .int v1), (2, .int v2), (3, .int v3), (4, .int v4)]) hx hb dX5_needClasses_71 hl (by decide) rfl (fun ls hl => ?_)
      obtain ⟨n9, h⟩ := h
      exact k_X5_needClasses_73 hN C hk23 ih n9 v1 v2 v3 v4 0 t9 _ _ _ h hP hS (lv_sub hl [1, 2, 3, 4, 5, 0] rfl)

set_option maxHeartbeats 4000000 in
set_option maxRecDepth 100000 in
theorem k_X5_needClasses_23 {D : va_G} {adr : Nat → Nat} {cs : Nat → ClassId} {N : Nat} (hN : 67 ≤ N) {p : Program} {l : Launch} {e : Env} {s : State} {m : MethodId} {args : Array Value} {below : List Frame} {meth : Method} {c : Code} (C : fCx D adr cs N p s m args meth c cX5_needClasses 6 (none) RX5 wm_X5_needClasses) {post : fcS → Prop} : ∀ (n : Nat) (v1 : Int32) (v2 : Int32) (v3 : Int32) (t : fcS) (H : Heap) (locs : List Loc) (ls : Array Slot), q_X5_needClasses_23 post n v1 v2 v3 t → va_P D vwCl (fwl adr N (fG adr cs t)) H → va_S (faN adr N) s.heap H locs → lv_has ls 6 [(0, .ref (adr 53)), (1, .int v1), (2, .int v2), (3, .int v3)] → W p l e ({ frames := 2, cells := 0, slots := 0, locals := 52 } : Room) s m args below meth c H locs 0 0 (MQ below (fQv D adr cs N post) args s 0 0 (faN adr N)) (F0 m 23 ls []) := by
  have hx := C.1.1
  have hb := C.1.2.1
  intro n
  induction n with
  | zero => intro v1 v2 v3 t H locs ls h; exact False.elim h
  | succ n ih =>
    intro v1 v2 v3 t H locs ls h hP hS hl
    unfold q_X5_needClasses_23 at h
    refine lv_iload_n hx hb dX5_needClasses_23 rfl (lv_at hl 3 rfl) ?_
    refine lv_aload_n hx hb dX5_needClasses_24 rfl (lv_at hl 0 rfl) ?_
    refine lv_iload_n hx hb dX5_needClasses_25 rfl (lv_at hl 1 rfl) ?_
    refine fr_ci (fr_runV (n := 1) (rest := [.int v3]) C (c_X5_genusOf l D adr cs hN t v1 _ h) hP hS (by omega) (fG_MO adr cs t) rfl (fgV mw_20_7 mw_20_8 mw_20_9 mw_1_5 mw_20_10) rfl rfl rfl (by decide +kernel) ⟨Nat.le_of_ble_eq_true rfl, Nat.le_of_ble_eq_true rfl⟩ rfl hl.1 rfl (Nat.le_of_ble_eq_true rfl) dX5_needClasses_26) hS (fun r4 t3 H locs h hP hS => ?_)
    refine lv_icmp_gt (tgt := 158) hx hb dX5_needClasses_29 (by decide) (fun c9 => ?_) (fun c9 => ?_)
    · replace h := h.1 c9
      exact fr_vret C hP hS h dX5_needClasses_158
    · replace h := h.2 c9
      refine lv_iload_n hx hb dX5_needClasses_32 rfl (lv_at hl 2 rfl) ?_
      refine lv_istore (lv' := [(4, .int v2), (0, .ref (adr 53)), (1, .int v1), (2, .int v2), (3, .int v3)]) hx hb dX5_needClasses_33 hl (by decide) rfl (fun ls hl => ?_)
      obtain ⟨n9, h⟩ := h
      exact k_X5_needClasses_35 hN C ih n9 v1 v2 v3 v2 t3 _ _ _ h hP hS (lv_sub hl [1, 2, 3, 4, 0] rfl)

set_option maxHeartbeats 4000000 in
set_option maxRecDepth 100000 in
theorem c_X5_needClasses (l : Launch) (D : va_G) (adr : Nat → Nat) (cs : Nat → ClassId) {N : Nat} (hN : 67 ≤ N) (t : fcS) (a0 : Int32) (post : fcS → Prop) (h : q_X5_needClasses t a0 post) : Met l yX5_needClasses wm_X5_needClasses ({ frames := 2, cells := 0, slots := 0, locals := 52 } : Room) (fcPre D adr cs N t [.ref (adr 53), .int a0]) (fQv D adr cs N post) 0 0 (faN adr N) := by
  refine f_enter (cc := cX5_needClasses) (nL := 6) (ret := none) (lv := [(0, .ref (adr 53)), (1, .int a0)]) (own := RX5) (by decide) rfl (Nat.le_of_ble_eq_true rfl) rfl rfl ?_
  intro p e s m below meth c ls C hP hS hl
  have hx := C.1.1
  have hb := C.1.2.1
  unfold q_X5_needClasses at h
  refine lv_aload_n hx hb dX5_needClasses_0 rfl (lv_at hl 0 rfl) ?_
  refine fr_get (j := 16) C hP (by omega) (fG_MO adr cs t) rfl (fun w h => List.mem_cons_of_mem _ (inl_X5 w h)) (by decide) rfl (List.mem_cons_of_mem _ mw_7_16) rfl dX5_needClasses_1 ?_
  refine lv_iload_n hx hb dX5_needClasses_4 rfl (lv_at hl 1 rfl) ?_
  refine lv_icmp_ne (tgt := 9) hx hb dX5_needClasses_5 (by decide) (fun c9 => ?_) (fun c9 => ?_)
  · replace h := h.1 c9
    refine lv_aload_n hx hb dX5_needClasses_9 rfl (lv_at hl 0 rfl) ?_
    refine lv_iload_n hx hb dX5_needClasses_10 rfl (lv_at hl 1 rfl) ?_
    refine fr_put C (fsi t 53 16 a0) (j := 16) (ty := .int) hP hS (by omega) (fG_MO adr cs t) rfl (fun w h => List.mem_cons_of_mem _ (inl_X5 w h)) tyX5_ok nmX5 (by decide) rfl (List.mem_cons_of_mem _ mw_7_16) rfl (by decide +kernel) rfl rfl (Nat.le_of_ble_eq_true rfl) (fS_MO_16 adr cs t a0) (fG_fsi_ne adr cs t 53 16 a0) dX5_needClasses_11 (fun H locs hP hS => ?_)
    obtain ⟨t1, et1⟩ : ∃ y : fcS, y = fsi t 53 16 a0 := ⟨_, rfl⟩
    rw [← et1] at hP
    replace h := h t1 et1
    refine lv_aload_n hx hb dX5_needClasses_14 rfl (lv_at hl 0 rfl) ?_
    refine lv_iconst (v := 0) hx hb dX5_needClasses_15 (by decide) ?_
    refine fr_put C (fsi t1 53 17 0) (j := 17) (ty := .int) hP hS (by omega) (fG_MO adr cs t1) rfl (fun w h => List.mem_cons_of_mem _ (inl_X5 w h)) tyX5_ok nmX5 (by decide) rfl (List.mem_cons_of_mem _ mw_29_2) rfl (by decide +kernel) rfl rfl (Nat.le_of_ble_eq_true rfl) (fS_MO_17 adr cs t1 0) (fG_fsi_ne adr cs t1 53 17 0) dX5_needClasses_16 (fun H locs hP hS => ?_)
    obtain ⟨t2, et2⟩ : ∃ y : fcS, y = fsi t1 53 17 0 := ⟨_, rfl⟩
    rw [← et2] at hP
    replace h := h t2 et2
    refine lv_iconst (v := 1) hx hb dX5_needClasses_19 (by decide) ?_
    refine lv_istore_n (lv' := [(2, .int 1), (0, .ref (adr 53)), (1, .int a0)]) hx hb dX5_needClasses_20 rfl hl (by decide) rfl (fun ls hl => ?_)
    refine lv_iconst (v := 0) hx hb dX5_needClasses_21 (by decide) ?_
    refine lv_istore_n (lv' := [(3, .int 0), (2, .int 1), (0, .ref (adr 53)), (1, .int a0)]) hx hb dX5_needClasses_22 rfl hl (by decide) rfl (fun ls hl => ?_)
    obtain ⟨n9, h⟩ := h
    exact k_X5_needClasses_23 hN C n9 a0 1 0 t2 _ _ _ h hP hS (lv_sub hl [2, 3, 1, 0] rfl)
  · replace h := h.2 c9
    exact fr_vret C hP hS h dX5_needClasses_8

/-! X5.isClass -/
abbrev wm_X5_isClass : List Cond := Cond.code yX5_isClass cX5_isClass 4 (some .int) :: wsL_law
def q_X5_isClass (t : fcS) (a0 : Int32) (a1 : Int32) (a2 : Int32) (post : Int32 → fcS → Prop) : Prop := ∀ t1 : fcS, t1 = fsi t 53 0 0 → (q_X5_hasClasses t1 a0 (fun (r3 : Int32) (t2 : fcS) => (r3 = 0 → (post ((-1)) t2)) ∧ (¬ r3 = 0 → ((a1 < 0 → (post ((-1)) t2)) ∧ (¬ a1 < 0 → ((0 ≤ a2 → (q_X5_isClassOf t2 a0 a1 a2 (fun (r5 : Int32) (t4 : fcS) => (r5 = 0 → (post 0 t4)) ∧ (¬ r5 = 0 → (post 1 t4))))) ∧ (¬ 0 ≤ a2 → (post ((-1)) t2))))))))
set_option maxHeartbeats 4000000 in
set_option maxRecDepth 100000 in
theorem c_X5_isClass (l : Launch) (D : va_G) (adr : Nat → Nat) (cs : Nat → ClassId) {N : Nat} (hN : 67 ≤ N) (t : fcS) (a0 : Int32) (a1 : Int32) (a2 : Int32) (post : Int32 → fcS → Prop) (h : q_X5_isClass t a0 a1 a2 post) : Met l yX5_isClass wm_X5_isClass ({ frames := 4, cells := 0, slots := 0, locals := 100 } : Room) (fcPre D adr cs N t [.ref (adr 53), .int a0, .int a1, .int a2]) (fQi D adr cs N post) 0 0 (faN adr N) := by
  refine f_enter (cc := cX5_isClass) (nL := 4) (ret := some .int) (lv := [(0, .ref (adr 53)), (1, .int a0), (2, .int a1), (3, .int a2)]) (own := RX5) (by decide) rfl (Nat.le_of_ble_eq_true rfl) rfl rfl ?_
  intro p e s m below meth c ls C hP hS hl
  have hx := C.1.1
  have hb := C.1.2.1
  unfold q_X5_isClass at h
  refine lv_aload_n hx hb dX5_isClass_0 rfl (lv_at hl 0 rfl) ?_
  refine lv_iconst (v := 0) hx hb dX5_isClass_1 (by decide) ?_
  refine fr_put C (fsi t 53 0 0) (j := 0) (ty := .int) hP hS (by omega) (fG_MO adr cs t) rfl (fun w h => List.mem_cons_of_mem _ (inl_X5 w h)) tyX5_ok nmX5 (by decide) rfl (List.mem_cons_of_mem _ mw_10_14) rfl (by decide +kernel) rfl rfl (Nat.le_of_ble_eq_true rfl) (fS_MO_0 adr cs t 0) (fG_fsi_ne adr cs t 53 0 0) dX5_isClass_2 (fun H locs hP hS => ?_)
  obtain ⟨t1, et1⟩ : ∃ y : fcS, y = fsi t 53 0 0 := ⟨_, rfl⟩
  rw [← et1] at hP
  replace h := h t1 et1
  refine lv_aload_n hx hb dX5_isClass_5 rfl (lv_at hl 0 rfl) ?_
  refine lv_iload_n hx hb dX5_isClass_6 rfl (lv_at hl 1 rfl) ?_
  refine fr_ci (fr_runV (n := 1) (rest := []) C (c_X5_hasClasses l D adr cs hN t1 a0 _ h) hP hS (by omega) (fG_MO adr cs t1) rfl (fgV mw_27_14 mw_27_15 mw_27_16 mw_1_5 mw_27_17) rfl rfl rfl (by decide +kernel) ⟨Nat.le_of_ble_eq_true rfl, Nat.le_of_ble_eq_true rfl⟩ rfl hl.1 rfl (Nat.le_of_ble_eq_true rfl) dX5_isClass_7) hS (fun r3 t2 H locs h hP hS => ?_)
  refine lv_if_eq (tgt := 21) hx hb dX5_isClass_10 (by decide) (fun c9 => ?_) (fun c9 => ?_)
  · replace h := h.1 c9
    refine lv_iconst (v := (-1)) hx hb dX5_isClass_21 (by decide) ?_
    exact fr_iret C hP hS h dX5_isClass_22
  · replace h := h.2 c9
    refine lv_iload_n hx hb dX5_isClass_13 rfl (lv_at hl 2 rfl) ?_
    refine lv_if_lt (tgt := 21) hx hb dX5_isClass_14 (by decide) (fun c9 => ?_) (fun c9 => ?_)
    · replace h := h.1 c9
      refine lv_iconst (v := (-1)) hx hb dX5_isClass_21 (by decide) ?_
      exact fr_iret C hP hS h dX5_isClass_22
    · replace h := h.2 c9
      refine lv_iload_n hx hb dX5_isClass_17 rfl (lv_at hl 3 rfl) ?_
      refine lv_if_ge (tgt := 23) hx hb dX5_isClass_18 (by decide) (fun c9 => ?_) (fun c9 => ?_)
      · replace h := h.1 c9
        refine lv_aload_n hx hb dX5_isClass_23 rfl (lv_at hl 0 rfl) ?_
        refine lv_iload_n hx hb dX5_isClass_24 rfl (lv_at hl 1 rfl) ?_
        refine lv_iload_n hx hb dX5_isClass_25 rfl (lv_at hl 2 rfl) ?_
        refine lv_iload_n hx hb dX5_isClass_26 rfl (lv_at hl 3 rfl) ?_
        refine fr_ci (fr_runV (n := 3) (rest := []) C (c_X5_isClassOf l D adr cs hN t2 a0 a1 a2 _ h) hP hS (by omega) (fG_MO adr cs t2) rfl (fgV mw_27_18 mw_27_19 mw_27_20 mw_1_5 mw_27_21) rfl rfl rfl (by decide +kernel) ⟨Nat.le_of_ble_eq_true rfl, Nat.le_of_ble_eq_true rfl⟩ rfl hl.1 rfl (Nat.le_of_ble_eq_true rfl) dX5_isClass_27) hS (fun r5 t4 H locs h hP hS => ?_)
        refine lv_if_eq (tgt := 37) hx hb dX5_isClass_30 (by decide) (fun c9 => ?_) (fun c9 => ?_)
        · replace h := h.1 c9
          refine lv_iconst (v := 0) hx hb dX5_isClass_37 (by decide) ?_
          exact fr_iret C hP hS h dX5_isClass_38
        · replace h := h.2 c9
          refine lv_iconst (v := 1) hx hb dX5_isClass_33 (by decide) ?_
          refine lv_goto (tgt := 38) hx hb dX5_isClass_34 (by decide) ?_
          exact fr_iret C hP hS h dX5_isClass_38
      · replace h := h.2 c9
        refine lv_iconst (v := (-1)) hx hb dX5_isClass_21 (by decide) ?_
        exact fr_iret C hP hS h dX5_isClass_22

/-! X5.classes -/
abbrev wm_X5_classes : List Cond := Cond.code yX5_classes cX5_classes 2 (some .int) :: wsL_law
def q_X5_classes (t : fcS) (a0 : Int32) (post : Int32 → fcS → Prop) : Prop := ∀ t1 : fcS, t1 = fsi t 53 0 0 → (q_X5_hasClasses t1 a0 (fun (r3 : Int32) (t2 : fcS) => (¬ r3 = 0 → (q_X5_needClasses t2 a0 (fun (t4 : fcS) => post ((fgi t4 53 17)) t4))) ∧ (r3 = 0 → (post ((-1)) t2))))
set_option maxHeartbeats 4000000 in
set_option maxRecDepth 100000 in
theorem c_X5_classes (l : Launch) (D : va_G) (adr : Nat → Nat) (cs : Nat → ClassId) {N : Nat} (hN : 67 ≤ N) (t : fcS) (a0 : Int32) (post : Int32 → fcS → Prop) (h : q_X5_classes t a0 post) : Met l yX5_classes wm_X5_classes ({ frames := 3, cells := 0, slots := 0, locals := 77 } : Room) (fcPre D adr cs N t [.ref (adr 53), .int a0]) (fQi D adr cs N post) 0 0 (faN adr N) := by
  refine f_enter (cc := cX5_classes) (nL := 2) (ret := some .int) (lv := [(0, .ref (adr 53)), (1, .int a0)]) (own := RX5) (by decide) rfl (Nat.le_of_ble_eq_true rfl) rfl rfl ?_
  intro p e s m below meth c ls C hP hS hl
  have hx := C.1.1
  have hb := C.1.2.1
  unfold q_X5_classes at h
  refine lv_aload_n hx hb dX5_classes_0 rfl (lv_at hl 0 rfl) ?_
  refine lv_iconst (v := 0) hx hb dX5_classes_1 (by decide) ?_
  refine fr_put C (fsi t 53 0 0) (j := 0) (ty := .int) hP hS (by omega) (fG_MO adr cs t) rfl (fun w h => List.mem_cons_of_mem _ (inl_X5 w h)) tyX5_ok nmX5 (by decide) rfl (List.mem_cons_of_mem _ mw_10_14) rfl (by decide +kernel) rfl rfl (Nat.le_of_ble_eq_true rfl) (fS_MO_0 adr cs t 0) (fG_fsi_ne adr cs t 53 0 0) dX5_classes_2 (fun H locs hP hS => ?_)
  obtain ⟨t1, et1⟩ : ∃ y : fcS, y = fsi t 53 0 0 := ⟨_, rfl⟩
  rw [← et1] at hP
  replace h := h t1 et1
  refine lv_aload_n hx hb dX5_classes_5 rfl (lv_at hl 0 rfl) ?_
  refine lv_iload_n hx hb dX5_classes_6 rfl (lv_at hl 1 rfl) ?_
  refine fr_ci (fr_runV (n := 1) (rest := []) C (c_X5_hasClasses l D adr cs hN t1 a0 _ h) hP hS (by omega) (fG_MO adr cs t1) rfl (fgV mw_27_14 mw_27_15 mw_27_16 mw_1_5 mw_27_17) rfl rfl rfl (by decide +kernel) ⟨Nat.le_of_ble_eq_true rfl, Nat.le_of_ble_eq_true rfl⟩ rfl hl.1 rfl (Nat.le_of_ble_eq_true rfl) dX5_classes_7) hS (fun r3 t2 H locs h hP hS => ?_)
  refine lv_if_ne (tgt := 15) hx hb dX5_classes_10 (by decide) (fun c9 => ?_) (fun c9 => ?_)
  · replace h := h.1 c9
    refine lv_aload_n hx hb dX5_classes_15 rfl (lv_at hl 0 rfl) ?_
    refine lv_iload_n hx hb dX5_classes_16 rfl (lv_at hl 1 rfl) ?_
    refine fr_cv (fr_runV (n := 1) (rest := []) C (c_X5_needClasses l D adr cs hN t2 a0 _ h) hP hS (by omega) (fG_MO adr cs t2) rfl (fgV mw_29_3 mw_29_4 mw_29_5 mw_1_5 mw_29_6) rfl rfl rfl (by decide +kernel) ⟨Nat.le_of_ble_eq_true rfl, Nat.le_of_ble_eq_true rfl⟩ rfl hl.1 rfl (Nat.le_of_ble_eq_true rfl) dX5_classes_17) hS (fun t4 H locs h hP hS => ?_)
    refine lv_aload_n hx hb dX5_classes_20 rfl (lv_at hl 0 rfl) ?_
    refine fr_get (j := 17) C hP (by omega) (fG_MO adr cs t4) rfl (fun w h => List.mem_cons_of_mem _ (inl_X5 w h)) (by decide) rfl (List.mem_cons_of_mem _ mw_29_2) rfl dX5_classes_21 ?_
    exact fr_iret C hP hS h dX5_classes_24
  · replace h := h.2 c9
    refine lv_iconst (v := (-1)) hx hb dX5_classes_13 (by decide) ?_
    exact fr_iret C hP hS h dX5_classes_14

/-! X5.classAt -/
abbrev wm_X5_classAt : List Cond := Cond.code yX5_classAt cX5_classAt 4 (some .int) :: wsL_law
def q_X5_classAt (t : fcS) (a0 : Int32) (a1 : Int32) (a2 : Int32) (post : Int32 → fcS → Prop) : Prop := ∀ t1 : fcS, t1 = fsi t 53 0 0 → (q_X5_hasClasses t1 a0 (fun (r3 : Int32) (t2 : fcS) => (r3 = 0 → (post ((-1)) t2)) ∧ (¬ r3 = 0 → ((a1 < 0 → (post ((-1)) t2)) ∧ (¬ a1 < 0 → (q_X5_in t2 ((Int32.toInt64 a2)) 0 1 (fun (r5 : Int32) (t4 : fcS) => (¬ r5 = 0 → (q_X5_needClasses t4 a0 (fun (t6 : fcS) => (a1 < (fgi t6 53 17) → ((¬ a2 = 0 → ((vp_in a1 600) ∧ (post ((fga t6 63 (Int32.toNatClampNeg a1))) t6))) ∧ (a2 = 0 → ((vp_in a1 600) ∧ (post ((fga t6 62 (Int32.toNatClampNeg a1))) t6))))) ∧ (¬ a1 < (fgi t6 53 17) → (post ((-9)) t6))))) ∧ (r5 = 0 → (post ((-1)) t4)))))))))
set_option maxHeartbeats 4000000 in
set_option maxRecDepth 100000 in
theorem c_X5_classAt (l : Launch) (D : va_G) (adr : Nat → Nat) (cs : Nat → ClassId) {N : Nat} (hN : 67 ≤ N) (t : fcS) (a0 : Int32) (a1 : Int32) (a2 : Int32) (post : Int32 → fcS → Prop) (h : q_X5_classAt t a0 a1 a2 post) : Met l yX5_classAt wm_X5_classAt ({ frames := 3, cells := 0, slots := 0, locals := 77 } : Room) (fcPre D adr cs N t [.ref (adr 53), .int a0, .int a1, .int a2]) (fQi D adr cs N post) 0 0 (faN adr N) := by
  refine f_enter (cc := cX5_classAt) (nL := 4) (ret := some .int) (lv := [(0, .ref (adr 53)), (1, .int a0), (2, .int a1), (3, .int a2)]) (own := RX5) (by decide) rfl (Nat.le_of_ble_eq_true rfl) rfl rfl ?_
  intro p e s m below meth c ls C hP hS hl
  have hx := C.1.1
  have hb := C.1.2.1
  unfold q_X5_classAt at h
  refine lv_aload_n hx hb dX5_classAt_0 rfl (lv_at hl 0 rfl) ?_
  refine lv_iconst (v := 0) hx hb dX5_classAt_1 (by decide) ?_
  refine fr_put C (fsi t 53 0 0) (j := 0) (ty := .int) hP hS (by omega) (fG_MO adr cs t) rfl (fun w h => List.mem_cons_of_mem _ (inl_X5 w h)) tyX5_ok nmX5 (by decide) rfl (List.mem_cons_of_mem _ mw_10_14) rfl (by decide +kernel) rfl rfl (Nat.le_of_ble_eq_true rfl) (fS_MO_0 adr cs t 0) (fG_fsi_ne adr cs t 53 0 0) dX5_classAt_2 (fun H locs hP hS => ?_)
  obtain ⟨t1, et1⟩ : ∃ y : fcS, y = fsi t 53 0 0 := ⟨_, rfl⟩
  rw [← et1] at hP
  replace h := h t1 et1
  refine lv_aload_n hx hb dX5_classAt_5 rfl (lv_at hl 0 rfl) ?_
  refine lv_iload_n hx hb dX5_classAt_6 rfl (lv_at hl 1 rfl) ?_
  refine fr_ci (fr_runV (n := 1) (rest := []) C (c_X5_hasClasses l D adr cs hN t1 a0 _ h) hP hS (by omega) (fG_MO adr cs t1) rfl (fgV mw_27_14 mw_27_15 mw_27_16 mw_1_5 mw_27_17) rfl rfl rfl (by decide +kernel) ⟨Nat.le_of_ble_eq_true rfl, Nat.le_of_ble_eq_true rfl⟩ rfl hl.1 rfl (Nat.le_of_ble_eq_true rfl) dX5_classAt_7) hS (fun r3 t2 H locs h hP hS => ?_)
  refine lv_if_eq (tgt := 27) hx hb dX5_classAt_10 (by decide) (fun c9 => ?_) (fun c9 => ?_)
  · replace h := h.1 c9
    refine lv_iconst (v := (-1)) hx hb dX5_classAt_27 (by decide) ?_
    exact fr_iret C hP hS h dX5_classAt_28
  · replace h := h.2 c9
    refine lv_iload_n hx hb dX5_classAt_13 rfl (lv_at hl 2 rfl) ?_
    refine lv_if_lt (tgt := 27) hx hb dX5_classAt_14 (by decide) (fun c9 => ?_) (fun c9 => ?_)
    · replace h := h.1 c9
      refine lv_iconst (v := (-1)) hx hb dX5_classAt_27 (by decide) ?_
      exact fr_iret C hP hS h dX5_classAt_28
    · replace h := h.2 c9
      refine lv_iload_n hx hb dX5_classAt_17 rfl (lv_at hl 3 rfl) ?_
      refine lv_i2l hx hb dX5_classAt_18 rfl ?_
      refine lv_lconst (v := 0) hx hb dX5_classAt_19 (by decide) ?_
      refine lv_lconst (v := 1) hx hb dX5_classAt_20 (by decide) ?_
      refine fr_ci (fr_runS (n := 3) (rest := []) C (c_X5_in l D adr cs hN t2 ((Int32.toInt64 a2)) 0 1 _ h) hP hS (fgS mw_11_3 mw_11_4 mw_1_5 mw_11_5) rfl rfl rfl (by decide +kernel) ⟨Nat.le_of_ble_eq_true rfl, Nat.le_of_ble_eq_true rfl⟩ rfl hl.1 rfl (Nat.le_of_ble_eq_true rfl) dX5_classAt_21) hS (fun r5 t4 H locs h hP hS => ?_)
      refine lv_if_ne (tgt := 29) hx hb dX5_classAt_24 (by decide) (fun c9 => ?_) (fun c9 => ?_)
      · replace h := h.1 c9
        refine lv_aload_n hx hb dX5_classAt_29 rfl (lv_at hl 0 rfl) ?_
        refine lv_iload_n hx hb dX5_classAt_30 rfl (lv_at hl 1 rfl) ?_
        refine fr_cv (fr_runV (n := 1) (rest := []) C (c_X5_needClasses l D adr cs hN t4 a0 _ h) hP hS (by omega) (fG_MO adr cs t4) rfl (fgV mw_29_3 mw_29_4 mw_29_5 mw_1_5 mw_29_6) rfl rfl rfl (by decide +kernel) ⟨Nat.le_of_ble_eq_true rfl, Nat.le_of_ble_eq_true rfl⟩ rfl hl.1 rfl (Nat.le_of_ble_eq_true rfl) dX5_classAt_31) hS (fun t6 H locs h hP hS => ?_)
        refine lv_iload_n hx hb dX5_classAt_34 rfl (lv_at hl 2 rfl) ?_
        refine lv_aload_n hx hb dX5_classAt_35 rfl (lv_at hl 0 rfl) ?_
        refine fr_get (j := 17) C hP (by omega) (fG_MO adr cs t6) rfl (fun w h => List.mem_cons_of_mem _ (inl_X5 w h)) (by decide) rfl (List.mem_cons_of_mem _ mw_29_2) rfl dX5_classAt_36 ?_
        refine lv_icmp_lt (tgt := 47) hx hb dX5_classAt_39 (by decide) (fun c9 => ?_) (fun c9 => ?_)
        · replace h := h.1 c9
          refine lv_iload_n hx hb dX5_classAt_47 rfl (lv_at hl 3 rfl) ?_
          refine lv_if_ne (tgt := 60) hx hb dX5_classAt_48 (by decide) (fun c9 => ?_) (fun c9 => ?_)
          · replace h := h.1 c9
            refine lv_aload_n hx hb dX5_classAt_60 rfl (lv_at hl 0 rfl) ?_
            refine fr_get (j := 19) C hP (by omega) (fG_MO adr cs t6) rfl (fun w h => List.mem_cons_of_mem _ (inl_X5 w h)) (by decide) rfl (List.mem_cons_of_mem _ mw_7_18) rfl dX5_classAt_61 ?_
            refine lv_iload_n hx hb dX5_classAt_64 rfl (lv_at hl 2 rfl) ?_
            refine fr_iald C hP (by omega) (fG_63 adr cs t6) h.1 dX5_classAt_65 ?_
            replace h := h.2
            exact fr_iret C hP hS h dX5_classAt_66
          · replace h := h.2 c9
            refine lv_aload_n hx hb dX5_classAt_51 rfl (lv_at hl 0 rfl) ?_
            refine fr_get (j := 18) C hP (by omega) (fG_MO adr cs t6) rfl (fun w h => List.mem_cons_of_mem _ (inl_X5 w h)) (by decide) rfl (List.mem_cons_of_mem _ mw_7_17) rfl dX5_classAt_52 ?_
            refine lv_iload_n hx hb dX5_classAt_55 rfl (lv_at hl 2 rfl) ?_
            refine fr_iald C hP (by omega) (fG_62 adr cs t6) h.1 dX5_classAt_56 ?_
            replace h := h.2
            refine lv_goto (tgt := 66) hx hb dX5_classAt_57 (by decide) ?_
            exact fr_iret C hP hS h dX5_classAt_66
        · replace h := h.2 c9
          refine lv_bipush (v := (-9)) hx hb dX5_classAt_42 (by decide) ?_
          refine lv_goto (tgt := 66) hx hb dX5_classAt_44 (by decide) ?_
          exact fr_iret C hP hS h dX5_classAt_66
      · replace h := h.2 c9
        refine lv_iconst (v := (-1)) hx hb dX5_classAt_27 (by decide) ?_
        exact fr_iret C hP hS h dX5_classAt_28

/-! X5.find -/
abbrev wm_X5_find : List Cond := Cond.code yX5_find cX5_find 4 (some .int) :: wsL_law
def q_X5_find_2 (post : Int32 → fcS → Prop) : Nat → Int32 → Int32 → Int32 → fcS → Prop
  | 0, _, _, _, _ => False
  | n + 1, v1, v2, v3, t => (vp_in v3 600) ∧ ((¬ (fga t 62 (Int32.toNatClampNeg v3)) = v1 → (∀ x1 : Int32, x1 = v3 + 1 → (q_X5_find_2 post n v1 v2 x1 t))) ∧ ((fga t 62 (Int32.toNatClampNeg v3)) = v1 → ((vp_in v3 600) ∧ (((fga t 63 (Int32.toNatClampNeg v3)) = v2 → (post v3 t)) ∧ (¬ (fga t 63 (Int32.toNatClampNeg v3)) = v2 → (∀ x2 : Int32, x2 = v3 + 1 → (q_X5_find_2 post n v1 v2 x2 t)))))))
def q_X5_find (t : fcS) (a0 : Int32) (a1 : Int32) (post : Int32 → fcS → Prop) : Prop := ∃ n0, q_X5_find_2 post n0 a0 a1 0 t
set_option maxHeartbeats 4000000 in
set_option maxRecDepth 100000 in
theorem k_X5_find_2 {D : va_G} {adr : Nat → Nat} {cs : Nat → ClassId} {N : Nat} (hN : 67 ≤ N) {p : Program} {l : Launch} {e : Env} {s : State} {m : MethodId} {args : Array Value} {below : List Frame} {meth : Method} {c : Code} (C : fCx D adr cs N p s m args meth c cX5_find 4 (some .int) RX5 wm_X5_find) {post : Int32 → fcS → Prop} : ∀ (n : Nat) (v1 : Int32) (v2 : Int32) (v3 : Int32) (t : fcS) (H : Heap) (locs : List Loc) (ls : Array Slot), q_X5_find_2 post n v1 v2 v3 t → va_P D vwCl (fwl adr N (fG adr cs t)) H → va_S (faN adr N) s.heap H locs → lv_has ls 4 [(0, .ref (adr 53)), (1, .int v1), (2, .int v2), (3, .int v3)] → W p l e ({ frames := 0, cells := 0, slots := 0, locals := 0 } : Room) s m args below meth c H locs 0 0 (MQ below (fQi D adr cs N post) args s 0 0 (faN adr N)) (F0 m 2 ls []) := by
  have hx := C.1.1
  have hb := C.1.2.1
  intro n
  induction n with
  | zero => intro v1 v2 v3 t H locs ls h; exact False.elim h
  | succ n ih =>
    intro v1 v2 v3 t H locs ls h hP hS hl
    unfold q_X5_find_2 at h
    refine lv_aload_n hx hb dX5_find_2 rfl (lv_at hl 0 rfl) ?_
    refine fr_get (j := 18) C hP (by omega) (fG_MO adr cs t) rfl (fun w h => List.mem_cons_of_mem _ (inl_X5 w h)) (by decide) rfl (List.mem_cons_of_mem _ mw_7_17) rfl dX5_find_3 ?_
    refine lv_iload_n hx hb dX5_find_6 rfl (lv_at hl 3 rfl) ?_
    refine fr_iald C hP (by omega) (fG_62 adr cs t) h.1 dX5_find_7 ?_
    replace h := h.2
    refine lv_iload_n hx hb dX5_find_8 rfl (lv_at hl 1 rfl) ?_
    refine lv_icmp_ne (tgt := 22) hx hb dX5_find_9 (by decide) (fun c9 => ?_) (fun c9 => ?_)
    · replace h := h.1 c9
      obtain ⟨x1, ex1⟩ : ∃ y : Int32, y = v3 + 1 := ⟨_, rfl⟩
      replace h := h x1 ex1
      refine lv_iinc (v := x1) (lv' := [(3, .int x1), (0, .ref (adr 53)), (1, .int v1), (2, .int v2)]) hx hb dX5_find_22 hl (k := 3) rfl (by rw [ex1]; rfl) (by decide) rfl (fun ls hl => ?_)
      refine lv_goto (tgt := 2) hx hb dX5_find_25 (by decide) ?_
      exact ih v1 v2 x1 t _ _ _ h hP hS (lv_sub hl [1, 2, 3, 0] rfl)
    · replace h := h.2 c9
      refine lv_aload_n hx hb dX5_find_12 rfl (lv_at hl 0 rfl) ?_
      refine fr_get (j := 19) C hP (by omega) (fG_MO adr cs t) rfl (fun w h => List.mem_cons_of_mem _ (inl_X5 w h)) (by decide) rfl (List.mem_cons_of_mem _ mw_7_18) rfl dX5_find_13 ?_
      refine lv_iload_n hx hb dX5_find_16 rfl (lv_at hl 3 rfl) ?_
      refine fr_iald C hP (by omega) (fG_63 adr cs t) h.1 dX5_find_17 ?_
      replace h := h.2
      refine lv_iload_n hx hb dX5_find_18 rfl (lv_at hl 2 rfl) ?_
      refine lv_icmp_eq (tgt := 28) hx hb dX5_find_19 (by decide) (fun c9 => ?_) (fun c9 => ?_)
      · replace h := h.1 c9
        refine lv_iload_n hx hb dX5_find_28 rfl (lv_at hl 3 rfl) ?_
        exact fr_iret C hP hS h dX5_find_29
      · replace h := h.2 c9
        obtain ⟨x2, ex2⟩ : ∃ y : Int32, y = v3 + 1 := ⟨_, rfl⟩
        replace h := h x2 ex2
        refine lv_iinc (v := x2) (lv' := [(3, .int x2), (0, .ref (adr 53)), (1, .int v1), (2, .int v2)]) hx hb dX5_find_22 hl (k := 3) rfl (by rw [ex2]; rfl) (by decide) rfl (fun ls hl => ?_)
        refine lv_goto (tgt := 2) hx hb dX5_find_25 (by decide) ?_
        exact ih v1 v2 x2 t _ _ _ h hP hS (lv_sub hl [1, 2, 3, 0] rfl)

set_option maxHeartbeats 4000000 in
set_option maxRecDepth 100000 in
theorem c_X5_find (l : Launch) (D : va_G) (adr : Nat → Nat) (cs : Nat → ClassId) {N : Nat} (hN : 67 ≤ N) (t : fcS) (a0 : Int32) (a1 : Int32) (post : Int32 → fcS → Prop) (h : q_X5_find t a0 a1 post) : Met l yX5_find wm_X5_find ({ frames := 0, cells := 0, slots := 0, locals := 0 } : Room) (fcPre D adr cs N t [.ref (adr 53), .int a0, .int a1]) (fQi D adr cs N post) 0 0 (faN adr N) := by
  refine f_enter (cc := cX5_find) (nL := 4) (ret := some .int) (lv := [(0, .ref (adr 53)), (1, .int a0), (2, .int a1)]) (own := RX5) (by decide) rfl (Nat.le_of_ble_eq_true rfl) rfl rfl ?_
  intro p e s m below meth c ls C hP hS hl
  have hx := C.1.1
  have hb := C.1.2.1
  unfold q_X5_find at h
  refine lv_iconst (v := 0) hx hb dX5_find_0 (by decide) ?_
  refine lv_istore_n (lv' := [(3, .int 0), (0, .ref (adr 53)), (1, .int a0), (2, .int a1)]) hx hb dX5_find_1 rfl hl (by decide) rfl (fun ls hl => ?_)
  obtain ⟨n9, h⟩ := h
  exact k_X5_find_2 hN C n9 a0 a1 0 t _ _ _ h hP hS (lv_sub hl [1, 2, 3, 0] rfl)

