/-! X5.load -/
abbrev wm_X5_load : List Cond := Cond.code yX5_load cX5_load 5 none :: wsL_law
def q_X5_load_5 (post : fcS → Prop) : Nat → Int32 → Int32 → Int32 → fcS → Prop
  | 0, _, _, _, _ => False
  | n + 1, v1, v3, v4, t => (16 ≤ v4 → (post t)) ∧ (¬ 16 ≤ v4 → ((¬ ((fgi t 53 1) : Int32) = 0) ∧ ((vp_in (((16 * v1) + v4)) 640) ∧ (∀ t1 : fcS, t1 = fsa t 60 (Int32.toNatClampNeg (((16 * v1) + v4))) ((irm v3 ((fgi t 53 1)))) → ((¬ ((fgi t1 53 1) : Int32) = 0) ∧ (∀ x2 : Int32, x2 = (v3 / (fgi t1 53 1)) → (∀ x3 : Int32, x3 = v4 + 1 → (q_X5_load_5 post n v1 x2 x3 t1))))))))
def q_X5_load (t : fcS) (a0 : Int32) (a1 : Int32) (post : fcS → Prop) : Prop := ∃ n0, q_X5_load_5 post n0 a0 a1 0 t
set_option maxHeartbeats 4000000 in
set_option maxRecDepth 100000 in
theorem k_X5_load_5 {D : va_G} {adr : Nat → Nat} {cs : Nat → ClassId} {N : Nat} (hN : 67 ≤ N) {p : Program} {l : Launch} {e : Env} {s : State} {m : MethodId} {args : Array Value} {below : List Frame} {meth : Method} {c : Code} (C : fCx D adr cs N p s m args meth c cX5_load 5 (none) RX5 wm_X5_load) {post : fcS → Prop} : ∀ (n : Nat) (v1 : Int32) (v3 : Int32) (v4 : Int32) (t : fcS) (H : Heap) (locs : List Loc) (ls : Array Slot), q_X5_load_5 post n v1 v3 v4 t → va_P D vwCl (fwl adr N (fG adr cs t)) H → va_S (faN adr N) s.heap H locs → lv_has ls 5 [(0, .ref (adr 53)), (1, .int v1), (3, .int v3), (4, .int v4)] → W p l e ({ frames := 0, cells := 0, slots := 0, locals := 0 } : Room) s m args below meth c H locs 0 0 (MQ below (fQv D adr cs N post) args s 0 0 (faN adr N)) (F0 m 5 ls []) := by
  have hx := C.1.1
  have hb := C.1.2.1
  intro n
  induction n with
  | zero => intro v1 v3 v4 t H locs ls h; exact False.elim h
  | succ n ih =>
    intro v1 v3 v4 t H locs ls h hP hS hl
    unfold q_X5_load_5 at h
    refine lv_iload hx hb dX5_load_5 (lv_at hl 3 rfl) ?_
    refine lv_bipush (v := 16) hx hb dX5_load_7 (by decide) ?_
    refine lv_icmp_ge (tgt := 43) hx hb dX5_load_9 (by decide) (fun c9 => ?_) (fun c9 => ?_)
    · replace h := h.1 c9
      exact fr_vret C hP hS h dX5_load_43
    · replace h := h.2 c9
      refine lv_aload_n hx hb dX5_load_12 rfl (lv_at hl 0 rfl) ?_
      refine fr_get (j := 13) C hP (by omega) (fG_MO adr cs t) rfl (fun w h => List.mem_cons_of_mem _ (inl_X5 w h)) (by decide) rfl (List.mem_cons_of_mem _ mw_7_14) rfl dX5_load_13 ?_
      refine lv_bipush (v := 16) hx hb dX5_load_16 (by decide) ?_
      refine lv_iload_n hx hb dX5_load_18 rfl (lv_at hl 1 rfl) ?_
      refine lv_imul hx hb dX5_load_19 ?_
      refine lv_iload hx hb dX5_load_20 (lv_at hl 3 rfl) ?_
      refine lv_iadd hx hb dX5_load_22 ?_
      refine lv_iload_n hx hb dX5_load_23 rfl (lv_at hl 2 rfl) ?_
      refine lv_aload_n hx hb dX5_load_24 rfl (lv_at hl 0 rfl) ?_
      refine fr_get (j := 1) C hP (by omega) (fG_MO adr cs t) rfl (fun w h => List.mem_cons_of_mem _ (inl_X5 w h)) (by decide) rfl (List.mem_cons_of_mem _ mw_7_5) rfl dX5_load_25 ?_
      refine lv_irem hx hb dX5_load_28 h.1 ?_
      replace h := h.2
      refine fr_iast C hP hS (by omega) (fun u => (fG_60 adr cs u)) h.1 dX5_load_29 (fun H locs hP hS => ?_)
      obtain ⟨t1, et1⟩ : ∃ y : fcS, y = fsa t 60 (Int32.toNatClampNeg (((16 * v1) + v4))) ((irm v3 ((fgi t 53 1)))) := ⟨_, rfl⟩
      rw [← et1] at hP
      replace h := h.2 t1 et1
      refine lv_iload_n hx hb dX5_load_30 rfl (lv_at hl 2 rfl) ?_
      refine lv_aload_n hx hb dX5_load_31 rfl (lv_at hl 0 rfl) ?_
      refine fr_get (j := 1) C hP (by omega) (fG_MO adr cs t1) rfl (fun w h => List.mem_cons_of_mem _ (inl_X5 w h)) (by decide) rfl (List.mem_cons_of_mem _ mw_7_5) rfl dX5_load_32 ?_
      refine lv_idiv hx hb dX5_load_35 h.1 ?_
      replace h := h.2
      refine lv_topi (fun x2 ex2 => ?_)
      replace h := h x2 ex2
      refine lv_istore_n (lv' := [(3, .int x2), (0, .ref (adr 53)), (1, .int v1), (4, .int v4)]) hx hb dX5_load_36 rfl hl (by decide) rfl (fun ls hl => ?_)
      obtain ⟨x3, ex3⟩ : ∃ y : Int32, y = v4 + 1 := ⟨_, rfl⟩
      replace h := h x3 ex3
      refine lv_iinc (v := x3) (lv' := [(4, .int x3), (3, .int x2), (0, .ref (adr 53)), (1, .int v1)]) hx hb dX5_load_37 hl (k := 3) rfl (by rw [ex3]; rfl) (by decide) rfl (fun ls hl => ?_)
      refine lv_goto (tgt := 5) hx hb dX5_load_40 (by decide) ?_
      exact ih v1 x2 x3 t1 _ _ _ h hP hS (lv_sub hl [2, 3, 1, 0] rfl)

set_option maxHeartbeats 4000000 in
set_option maxRecDepth 100000 in
theorem c_X5_load (l : Launch) (D : va_G) (adr : Nat → Nat) (cs : Nat → ClassId) {N : Nat} (hN : 67 ≤ N) (t : fcS) (a0 : Int32) (a1 : Int32) (post : fcS → Prop) (h : q_X5_load t a0 a1 post) : Met l yX5_load wm_X5_load ({ frames := 0, cells := 0, slots := 0, locals := 0 } : Room) (fcPre D adr cs N t [.ref (adr 53), .int a0, .int a1]) (fQv D adr cs N post) 0 0 (faN adr N) := by
  refine f_enter (cc := cX5_load) (nL := 5) (ret := none) (lv := [(0, .ref (adr 53)), (1, .int a0), (2, .int a1)]) (own := RX5) (by decide) rfl (Nat.le_of_ble_eq_true rfl) rfl rfl ?_
  intro p e s m below meth c ls C hP hS hl
  have hx := C.1.1
  have hb := C.1.2.1
  unfold q_X5_load at h
  refine lv_iload_n hx hb dX5_load_0 rfl (lv_at hl 2 rfl) ?_
  refine lv_istore_n (lv' := [(3, .int a1), (0, .ref (adr 53)), (1, .int a0), (2, .int a1)]) hx hb dX5_load_1 rfl hl (by decide) rfl (fun ls hl => ?_)
  refine lv_iconst (v := 0) hx hb dX5_load_2 (by decide) ?_
  refine lv_istore (lv' := [(4, .int 0), (3, .int a1), (0, .ref (adr 53)), (1, .int a0), (2, .int a1)]) hx hb dX5_load_3 hl (by decide) rfl (fun ls hl => ?_)
  obtain ⟨n9, h⟩ := h
  exact k_X5_load_5 hN C n9 a0 a1 0 t _ _ _ h hP hS (lv_sub hl [2, 3, 1, 0] rfl)

/-! X5.clear -/
abbrev wm_X5_clear : List Cond := Cond.code yX5_clear cX5_clear 3 none :: wsL_law
def q_X5_clear_2 (post : fcS → Prop) : Nat → Int32 → Int32 → fcS → Prop
  | 0, _, _, _ => False
  | n + 1, v1, v2, t => (16 ≤ v2 → (post t)) ∧ (¬ 16 ≤ v2 → ((vp_in (((16 * v1) + v2)) 640) ∧ (∀ t1 : fcS, t1 = fsa t 60 (Int32.toNatClampNeg (((16 * v1) + v2))) 0 → (∀ x2 : Int32, x2 = v2 + 1 → (q_X5_clear_2 post n v1 x2 t1)))))
def q_X5_clear (t : fcS) (a0 : Int32) (post : fcS → Prop) : Prop := ∃ n0, q_X5_clear_2 post n0 a0 0 t
set_option maxHeartbeats 4000000 in
set_option maxRecDepth 100000 in
theorem k_X5_clear_2 {D : va_G} {adr : Nat → Nat} {cs : Nat → ClassId} {N : Nat} (hN : 67 ≤ N) {p : Program} {l : Launch} {e : Env} {s : State} {m : MethodId} {args : Array Value} {below : List Frame} {meth : Method} {c : Code} (C : fCx D adr cs N p s m args meth c cX5_clear 3 (none) RX5 wm_X5_clear) {post : fcS → Prop} : ∀ (n : Nat) (v1 : Int32) (v2 : Int32) (t : fcS) (H : Heap) (locs : List Loc) (ls : Array Slot), q_X5_clear_2 post n v1 v2 t → va_P D vwCl (fwl adr N (fG adr cs t)) H → va_S (faN adr N) s.heap H locs → lv_has ls 3 [(0, .ref (adr 53)), (1, .int v1), (2, .int v2)] → W p l e ({ frames := 0, cells := 0, slots := 0, locals := 0 } : Room) s m args below meth c H locs 0 0 (MQ below (fQv D adr cs N post) args s 0 0 (faN adr N)) (F0 m 2 ls []) := by
  have hx := C.1.1
  have hb := C.1.2.1
  intro n
  induction n with
  | zero => intro v1 v2 t H locs ls h; exact False.elim h
  | succ n ih =>
    intro v1 v2 t H locs ls h hP hS hl
    unfold q_X5_clear_2 at h
    refine lv_iload_n hx hb dX5_clear_2 rfl (lv_at hl 2 rfl) ?_
    refine lv_bipush (v := 16) hx hb dX5_clear_3 (by decide) ?_
    refine lv_icmp_ge (tgt := 26) hx hb dX5_clear_5 (by decide) (fun c9 => ?_) (fun c9 => ?_)
    · replace h := h.1 c9
      exact fr_vret C hP hS h dX5_clear_26
    · replace h := h.2 c9
      refine lv_aload_n hx hb dX5_clear_8 rfl (lv_at hl 0 rfl) ?_
      refine fr_get (j := 13) C hP (by omega) (fG_MO adr cs t) rfl (fun w h => List.mem_cons_of_mem _ (inl_X5 w h)) (by decide) rfl (List.mem_cons_of_mem _ mw_7_14) rfl dX5_clear_9 ?_
      refine lv_bipush (v := 16) hx hb dX5_clear_12 (by decide) ?_
      refine lv_iload_n hx hb dX5_clear_14 rfl (lv_at hl 1 rfl) ?_
      refine lv_imul hx hb dX5_clear_15 ?_
      refine lv_iload_n hx hb dX5_clear_16 rfl (lv_at hl 2 rfl) ?_
      refine lv_iadd hx hb dX5_clear_17 ?_
      refine lv_iconst (v := 0) hx hb dX5_clear_18 (by decide) ?_
      refine fr_iast C hP hS (by omega) (fun u => (fG_60 adr cs u)) h.1 dX5_clear_19 (fun H locs hP hS => ?_)
      obtain ⟨t1, et1⟩ : ∃ y : fcS, y = fsa t 60 (Int32.toNatClampNeg (((16 * v1) + v2))) 0 := ⟨_, rfl⟩
      rw [← et1] at hP
      replace h := h.2 t1 et1
      obtain ⟨x2, ex2⟩ : ∃ y : Int32, y = v2 + 1 := ⟨_, rfl⟩
      replace h := h x2 ex2
      refine lv_iinc (v := x2) (lv' := [(2, .int x2), (0, .ref (adr 53)), (1, .int v1)]) hx hb dX5_clear_20 hl (k := 2) rfl (by rw [ex2]; rfl) (by decide) rfl (fun ls hl => ?_)
      refine lv_goto (tgt := 2) hx hb dX5_clear_23 (by decide) ?_
      exact ih v1 x2 t1 _ _ _ h hP hS (lv_sub hl [1, 2, 0] rfl)

set_option maxHeartbeats 4000000 in
set_option maxRecDepth 100000 in
theorem c_X5_clear (l : Launch) (D : va_G) (adr : Nat → Nat) (cs : Nat → ClassId) {N : Nat} (hN : 67 ≤ N) (t : fcS) (a0 : Int32) (post : fcS → Prop) (h : q_X5_clear t a0 post) : Met l yX5_clear wm_X5_clear ({ frames := 0, cells := 0, slots := 0, locals := 0 } : Room) (fcPre D adr cs N t [.ref (adr 53), .int a0]) (fQv D adr cs N post) 0 0 (faN adr N) := by
  refine f_enter (cc := cX5_clear) (nL := 3) (ret := none) (lv := [(0, .ref (adr 53)), (1, .int a0)]) (own := RX5) (by decide) rfl (Nat.le_of_ble_eq_true rfl) rfl rfl ?_
  intro p e s m below meth c ls C hP hS hl
  have hx := C.1.1
  have hb := C.1.2.1
  unfold q_X5_clear at h
  refine lv_iconst (v := 0) hx hb dX5_clear_0 (by decide) ?_
  refine lv_istore_n (lv' := [(2, .int 0), (0, .ref (adr 53)), (1, .int a0)]) hx hb dX5_clear_1 rfl hl (by decide) rfl (fun ls hl => ?_)
  obtain ⟨n9, h⟩ := h
  exact k_X5_clear_2 hN C n9 a0 0 t _ _ _ h hP hS (lv_sub hl [1, 2, 0] rfl)

/-! X5.copy -/
abbrev wm_X5_copy : List Cond := Cond.code yX5_copy cX5_copy 4 none :: wsL_law
def q_X5_copy_2 (post : fcS → Prop) : Nat → Int32 → Int32 → Int32 → fcS → Prop
  | 0, _, _, _, _ => False
  | n + 1, v1, v2, v3, t => (16 ≤ v3 → (post t)) ∧ (¬ 16 ≤ v3 → ((vp_in (((16 * v2) + v3)) 640) ∧ ((vp_in (((16 * v1) + v3)) 640) ∧ (∀ t1 : fcS, t1 = fsa t 60 (Int32.toNatClampNeg (((16 * v1) + v3))) ((fga t 60 (Int32.toNatClampNeg (((16 * v2) + v3))))) → (∀ x2 : Int32, x2 = v3 + 1 → (q_X5_copy_2 post n v1 v2 x2 t1))))))
def q_X5_copy (t : fcS) (a0 : Int32) (a1 : Int32) (post : fcS → Prop) : Prop := ∃ n0, q_X5_copy_2 post n0 a0 a1 0 t
set_option maxHeartbeats 4000000 in
set_option maxRecDepth 100000 in
theorem k_X5_copy_2 {D : va_G} {adr : Nat → Nat} {cs : Nat → ClassId} {N : Nat} (hN : 67 ≤ N) {p : Program} {l : Launch} {e : Env} {s : State} {m : MethodId} {args : Array Value} {below : List Frame} {meth : Method} {c : Code} (C : fCx D adr cs N p s m args meth c cX5_copy 4 (none) RX5 wm_X5_copy) {post : fcS → Prop} : ∀ (n : Nat) (v1 : Int32) (v2 : Int32) (v3 : Int32) (t : fcS) (H : Heap) (locs : List Loc) (ls : Array Slot), q_X5_copy_2 post n v1 v2 v3 t → va_P D vwCl (fwl adr N (fG adr cs t)) H → va_S (faN adr N) s.heap H locs → lv_has ls 4 [(0, .ref (adr 53)), (1, .int v1), (2, .int v2), (3, .int v3)] → W p l e ({ frames := 0, cells := 0, slots := 0, locals := 0 } : Room) s m args below meth c H locs 0 0 (MQ below (fQv D adr cs N post) args s 0 0 (faN adr N)) (F0 m 2 ls []) := by
  have hx := C.1.1
  have hb := C.1.2.1
  intro n
  induction n with
  | zero => intro v1 v2 v3 t H locs ls h; exact False.elim h
  | succ n ih =>
    intro v1 v2 v3 t H locs ls h hP hS hl
    unfold q_X5_copy_2 at h
    refine lv_iload_n hx hb dX5_copy_2 rfl (lv_at hl 3 rfl) ?_
    refine lv_bipush (v := 16) hx hb dX5_copy_3 (by decide) ?_
    refine lv_icmp_ge (tgt := 36) hx hb dX5_copy_5 (by decide) (fun c9 => ?_) (fun c9 => ?_)
    · replace h := h.1 c9
      exact fr_vret C hP hS h dX5_copy_36
    · replace h := h.2 c9
      refine lv_aload_n hx hb dX5_copy_8 rfl (lv_at hl 0 rfl) ?_
      refine fr_get (j := 13) C hP (by omega) (fG_MO adr cs t) rfl (fun w h => List.mem_cons_of_mem _ (inl_X5 w h)) (by decide) rfl (List.mem_cons_of_mem _ mw_7_14) rfl dX5_copy_9 ?_
      refine lv_bipush (v := 16) hx hb dX5_copy_12 (by decide) ?_
      refine lv_iload_n hx hb dX5_copy_14 rfl (lv_at hl 1 rfl) ?_
      refine lv_imul hx hb dX5_copy_15 ?_
      refine lv_iload_n hx hb dX5_copy_16 rfl (lv_at hl 3 rfl) ?_
      refine lv_iadd hx hb dX5_copy_17 ?_
      refine lv_aload_n hx hb dX5_copy_18 rfl (lv_at hl 0 rfl) ?_
      refine fr_get (j := 13) C hP (by omega) (fG_MO adr cs t) rfl (fun w h => List.mem_cons_of_mem _ (inl_X5 w h)) (by decide) rfl (List.mem_cons_of_mem _ mw_7_14) rfl dX5_copy_19 ?_
      refine lv_bipush (v := 16) hx hb dX5_copy_22 (by decide) ?_
      refine lv_iload_n hx hb dX5_copy_24 rfl (lv_at hl 2 rfl) ?_
      refine lv_imul hx hb dX5_copy_25 ?_
      refine lv_iload_n hx hb dX5_copy_26 rfl (lv_at hl 3 rfl) ?_
      refine lv_iadd hx hb dX5_copy_27 ?_
      refine fr_iald C hP (by omega) (fG_60 adr cs t) h.1 dX5_copy_28 ?_
      replace h := h.2
      refine fr_iast C hP hS (by omega) (fun u => (fG_60 adr cs u)) h.1 dX5_copy_29 (fun H locs hP hS => ?_)
      obtain ⟨t1, et1⟩ : ∃ y : fcS, y = fsa t 60 (Int32.toNatClampNeg (((16 * v1) + v3))) ((fga t 60 (Int32.toNatClampNeg (((16 * v2) + v3))))) := ⟨_, rfl⟩
      rw [← et1] at hP
      replace h := h.2 t1 et1
      obtain ⟨x2, ex2⟩ : ∃ y : Int32, y = v3 + 1 := ⟨_, rfl⟩
      replace h := h x2 ex2
      refine lv_iinc (v := x2) (lv' := [(3, .int x2), (0, .ref (adr 53)), (1, .int v1), (2, .int v2)]) hx hb dX5_copy_30 hl (k := 3) rfl (by rw [ex2]; rfl) (by decide) rfl (fun ls hl => ?_)
      refine lv_goto (tgt := 2) hx hb dX5_copy_33 (by decide) ?_
      exact ih v1 v2 x2 t1 _ _ _ h hP hS (lv_sub hl [1, 2, 3, 0] rfl)

set_option maxHeartbeats 4000000 in
set_option maxRecDepth 100000 in
theorem c_X5_copy (l : Launch) (D : va_G) (adr : Nat → Nat) (cs : Nat → ClassId) {N : Nat} (hN : 67 ≤ N) (t : fcS) (a0 : Int32) (a1 : Int32) (post : fcS → Prop) (h : q_X5_copy t a0 a1 post) : Met l yX5_copy wm_X5_copy ({ frames := 0, cells := 0, slots := 0, locals := 0 } : Room) (fcPre D adr cs N t [.ref (adr 53), .int a0, .int a1]) (fQv D adr cs N post) 0 0 (faN adr N) := by
  refine f_enter (cc := cX5_copy) (nL := 4) (ret := none) (lv := [(0, .ref (adr 53)), (1, .int a0), (2, .int a1)]) (own := RX5) (by decide) rfl (Nat.le_of_ble_eq_true rfl) rfl rfl ?_
  intro p e s m below meth c ls C hP hS hl
  have hx := C.1.1
  have hb := C.1.2.1
  unfold q_X5_copy at h
  refine lv_iconst (v := 0) hx hb dX5_copy_0 (by decide) ?_
  refine lv_istore_n (lv' := [(3, .int 0), (0, .ref (adr 53)), (1, .int a0), (2, .int a1)]) hx hb dX5_copy_1 rfl hl (by decide) rfl (fun ls hl => ?_)
  obtain ⟨n9, h⟩ := h
  exact k_X5_copy_2 hN C n9 a0 a1 0 t _ _ _ h hP hS (lv_sub hl [1, 2, 3, 0] rfl)

/-! X5.degree -/
abbrev wm_X5_degree : List Cond := Cond.code yX5_degree cX5_degree 3 (some .int) :: wsL_law
def q_X5_degree_3 (post : Int32 → fcS → Prop) : Nat → Int32 → Int32 → fcS → Prop
  | 0, _, _, _ => False
  | n + 1, v1, v2, t => (v2 < 0 → (post v2 t)) ∧ (¬ v2 < 0 → ((vp_in (((16 * v1) + v2)) 640) ∧ ((¬ (fga t 60 (Int32.toNatClampNeg (((16 * v1) + v2)))) = 0 → (post v2 t)) ∧ ((fga t 60 (Int32.toNatClampNeg (((16 * v1) + v2)))) = 0 → (∀ x1 : Int32, x1 = v2 + (-1) → (q_X5_degree_3 post n v1 x1 t))))))
def q_X5_degree (t : fcS) (a0 : Int32) (post : Int32 → fcS → Prop) : Prop := ∃ n0, q_X5_degree_3 post n0 a0 15 t
set_option maxHeartbeats 4000000 in
set_option maxRecDepth 100000 in
theorem k_X5_degree_3 {D : va_G} {adr : Nat → Nat} {cs : Nat → ClassId} {N : Nat} (hN : 67 ≤ N) {p : Program} {l : Launch} {e : Env} {s : State} {m : MethodId} {args : Array Value} {below : List Frame} {meth : Method} {c : Code} (C : fCx D adr cs N p s m args meth c cX5_degree 3 (some .int) RX5 wm_X5_degree) {post : Int32 → fcS → Prop} : ∀ (n : Nat) (v1 : Int32) (v2 : Int32) (t : fcS) (H : Heap) (locs : List Loc) (ls : Array Slot), q_X5_degree_3 post n v1 v2 t → va_P D vwCl (fwl adr N (fG adr cs t)) H → va_S (faN adr N) s.heap H locs → lv_has ls 3 [(0, .ref (adr 53)), (1, .int v1), (2, .int v2)] → W p l e ({ frames := 0, cells := 0, slots := 0, locals := 0 } : Room) s m args below meth c H locs 0 0 (MQ below (fQi D adr cs N post) args s 0 0 (faN adr N)) (F0 m 3 ls []) := by
  have hx := C.1.1
  have hb := C.1.2.1
  intro n
  induction n with
  | zero => intro v1 v2 t H locs ls h; exact False.elim h
  | succ n ih =>
    intro v1 v2 t H locs ls h hP hS hl
    unfold q_X5_degree_3 at h
    refine lv_iload_n hx hb dX5_degree_3 rfl (lv_at hl 2 rfl) ?_
    refine lv_if_lt (tgt := 27) hx hb dX5_degree_4 (by decide) (fun c9 => ?_) (fun c9 => ?_)
    · replace h := h.1 c9
      refine lv_iload_n hx hb dX5_degree_27 rfl (lv_at hl 2 rfl) ?_
      exact fr_iret C hP hS h dX5_degree_28
    · replace h := h.2 c9
      refine lv_aload_n hx hb dX5_degree_7 rfl (lv_at hl 0 rfl) ?_
      refine fr_get (j := 13) C hP (by omega) (fG_MO adr cs t) rfl (fun w h => List.mem_cons_of_mem _ (inl_X5 w h)) (by decide) rfl (List.mem_cons_of_mem _ mw_7_14) rfl dX5_degree_8 ?_
      refine lv_bipush (v := 16) hx hb dX5_degree_11 (by decide) ?_
      refine lv_iload_n hx hb dX5_degree_13 rfl (lv_at hl 1 rfl) ?_
      refine lv_imul hx hb dX5_degree_14 ?_
      refine lv_iload_n hx hb dX5_degree_15 rfl (lv_at hl 2 rfl) ?_
      refine lv_iadd hx hb dX5_degree_16 ?_
      refine fr_iald C hP (by omega) (fG_60 adr cs t) h.1 dX5_degree_17 ?_
      replace h := h.2
      refine lv_if_ne (tgt := 27) hx hb dX5_degree_18 (by decide) (fun c9 => ?_) (fun c9 => ?_)
      · replace h := h.1 c9
        refine lv_iload_n hx hb dX5_degree_27 rfl (lv_at hl 2 rfl) ?_
        exact fr_iret C hP hS h dX5_degree_28
      · replace h := h.2 c9
        obtain ⟨x1, ex1⟩ : ∃ y : Int32, y = v2 + (-1) := ⟨_, rfl⟩
        replace h := h x1 ex1
        refine lv_iinc (v := x1) (lv' := [(2, .int x1), (0, .ref (adr 53)), (1, .int v1)]) hx hb dX5_degree_21 hl (k := 2) rfl (by rw [ex1]; rfl) (by decide) rfl (fun ls hl => ?_)
        refine lv_goto (tgt := 3) hx hb dX5_degree_24 (by decide) ?_
        exact ih v1 x1 t _ _ _ h hP hS (lv_sub hl [1, 2, 0] rfl)

set_option maxHeartbeats 4000000 in
set_option maxRecDepth 100000 in
theorem c_X5_degree (l : Launch) (D : va_G) (adr : Nat → Nat) (cs : Nat → ClassId) {N : Nat} (hN : 67 ≤ N) (t : fcS) (a0 : Int32) (post : Int32 → fcS → Prop) (h : q_X5_degree t a0 post) : Met l yX5_degree wm_X5_degree ({ frames := 0, cells := 0, slots := 0, locals := 0 } : Room) (fcPre D adr cs N t [.ref (adr 53), .int a0]) (fQi D adr cs N post) 0 0 (faN adr N) := by
  refine f_enter (cc := cX5_degree) (nL := 3) (ret := some .int) (lv := [(0, .ref (adr 53)), (1, .int a0)]) (own := RX5) (by decide) rfl (Nat.le_of_ble_eq_true rfl) rfl rfl ?_
  intro p e s m below meth c ls C hP hS hl
  have hx := C.1.1
  have hb := C.1.2.1
  unfold q_X5_degree at h
  refine lv_bipush (v := 15) hx hb dX5_degree_0 (by decide) ?_
  refine lv_istore_n (lv' := [(2, .int 15), (0, .ref (adr 53)), (1, .int a0)]) hx hb dX5_degree_2 rfl hl (by decide) rfl (fun ls hl => ?_)
  obtain ⟨n9, h⟩ := h
  exact k_X5_degree_3 hN C n9 a0 15 t _ _ _ h hP hS (lv_sub hl [1, 2, 0] rfl)

/-! X5.inverse -/
abbrev wm_X5_inverse : List Cond := Cond.code yX5_inverse cX5_inverse 3 (some .int) :: wsL_law
def q_X5_inverse_2 (post : Int32 → fcS → Prop) : Nat → Int32 → Int32 → fcS → Prop
  | 0, _, _, _ => False
  | n + 1, v1, v2, t => (¬ ((fgi t 53 1) : Int32) = 0) ∧ (((irm ((v2 * v1)) ((fgi t 53 1))) = 1 → (post v2 t)) ∧ (¬ (irm ((v2 * v1)) ((fgi t 53 1))) = 1 → (∀ x1 : Int32, x1 = v2 + 1 → (q_X5_inverse_2 post n v1 x1 t))))
def q_X5_inverse (t : fcS) (a0 : Int32) (post : Int32 → fcS → Prop) : Prop := ∃ n0, q_X5_inverse_2 post n0 a0 1 t
set_option maxHeartbeats 4000000 in
set_option maxRecDepth 100000 in
theorem k_X5_inverse_2 {D : va_G} {adr : Nat → Nat} {cs : Nat → ClassId} {N : Nat} (hN : 67 ≤ N) {p : Program} {l : Launch} {e : Env} {s : State} {m : MethodId} {args : Array Value} {below : List Frame} {meth : Method} {c : Code} (C : fCx D adr cs N p s m args meth c cX5_inverse 3 (some .int) RX5 wm_X5_inverse) {post : Int32 → fcS → Prop} : ∀ (n : Nat) (v1 : Int32) (v2 : Int32) (t : fcS) (H : Heap) (locs : List Loc) (ls : Array Slot), q_X5_inverse_2 post n v1 v2 t → va_P D vwCl (fwl adr N (fG adr cs t)) H → va_S (faN adr N) s.heap H locs → lv_has ls 3 [(0, .ref (adr 53)), (1, .int v1), (2, .int v2)] → W p l e ({ frames := 0, cells := 0, slots := 0, locals := 0 } : Room) s m args below meth c H locs 0 0 (MQ below (fQi D adr cs N post) args s 0 0 (faN adr N)) (F0 m 2 ls []) := by
  have hx := C.1.1
  have hb := C.1.2.1
  intro n
  induction n with
  | zero => intro v1 v2 t H locs ls h; exact False.elim h
  | succ n ih =>
    intro v1 v2 t H locs ls h hP hS hl
    unfold q_X5_inverse_2 at h
    refine lv_iload_n hx hb dX5_inverse_2 rfl (lv_at hl 2 rfl) ?_
    refine lv_iload_n hx hb dX5_inverse_3 rfl (lv_at hl 1 rfl) ?_
    refine lv_imul hx hb dX5_inverse_4 ?_
    refine lv_aload_n hx hb dX5_inverse_5 rfl (lv_at hl 0 rfl) ?_
    refine fr_get (j := 1) C hP (by omega) (fG_MO adr cs t) rfl (fun w h => List.mem_cons_of_mem _ (inl_X5 w h)) (by decide) rfl (List.mem_cons_of_mem _ mw_7_5) rfl dX5_inverse_6 ?_
    refine lv_irem hx hb dX5_inverse_9 h.1 ?_
    replace h := h.2
    refine lv_iconst (v := 1) hx hb dX5_inverse_10 (by decide) ?_
    refine lv_icmp_eq (tgt := 20) hx hb dX5_inverse_11 (by decide) (fun c9 => ?_) (fun c9 => ?_)
    · replace h := h.1 c9
      refine lv_iload_n hx hb dX5_inverse_20 rfl (lv_at hl 2 rfl) ?_
      exact fr_iret C hP hS h dX5_inverse_21
    · replace h := h.2 c9
      obtain ⟨x1, ex1⟩ : ∃ y : Int32, y = v2 + 1 := ⟨_, rfl⟩
      replace h := h x1 ex1
      refine lv_iinc (v := x1) (lv' := [(2, .int x1), (0, .ref (adr 53)), (1, .int v1)]) hx hb dX5_inverse_14 hl (k := 2) rfl (by rw [ex1]; rfl) (by decide) rfl (fun ls hl => ?_)
      refine lv_goto (tgt := 2) hx hb dX5_inverse_17 (by decide) ?_
      exact ih v1 x1 t _ _ _ h hP hS (lv_sub hl [1, 2, 0] rfl)

set_option maxHeartbeats 4000000 in
set_option maxRecDepth 100000 in
theorem c_X5_inverse (l : Launch) (D : va_G) (adr : Nat → Nat) (cs : Nat → ClassId) {N : Nat} (hN : 67 ≤ N) (t : fcS) (a0 : Int32) (post : Int32 → fcS → Prop) (h : q_X5_inverse t a0 post) : Met l yX5_inverse wm_X5_inverse ({ frames := 0, cells := 0, slots := 0, locals := 0 } : Room) (fcPre D adr cs N t [.ref (adr 53), .int a0]) (fQi D adr cs N post) 0 0 (faN adr N) := by
  refine f_enter (cc := cX5_inverse) (nL := 3) (ret := some .int) (lv := [(0, .ref (adr 53)), (1, .int a0)]) (own := RX5) (by decide) rfl (Nat.le_of_ble_eq_true rfl) rfl rfl ?_
  intro p e s m below meth c ls C hP hS hl
  have hx := C.1.1
  have hb := C.1.2.1
  unfold q_X5_inverse at h
  refine lv_iconst (v := 1) hx hb dX5_inverse_0 (by decide) ?_
  refine lv_istore_n (lv' := [(2, .int 1), (0, .ref (adr 53)), (1, .int a0)]) hx hb dX5_inverse_1 rfl hl (by decide) rfl (fun ls hl => ?_)
  obtain ⟨n9, h⟩ := h
  exact k_X5_inverse_2 hN C n9 a0 1 t _ _ _ h hP hS (lv_sub hl [1, 2, 0] rfl)

/-! X5.left -/
abbrev wm_X5_left : List Cond := Cond.code yX5_left cX5_left 3 (some .int) :: wsL_law
def q_X5_left (t : fcS) (a0 : Int32) (post : Int32 → fcS → Prop) : Prop := (¬ ((fgi t 53 1) : Int32) = 0) ∧ (∀ x1 : Int32, x1 = (irm a0 ((fgi t 53 1))) → ((0 ≤ x1 → (post x1 t)) ∧ (¬ 0 ≤ x1 → (post ((x1 + (fgi t 53 1))) t))))
set_option maxHeartbeats 4000000 in
set_option maxRecDepth 100000 in
theorem c_X5_left (l : Launch) (D : va_G) (adr : Nat → Nat) (cs : Nat → ClassId) {N : Nat} (hN : 67 ≤ N) (t : fcS) (a0 : Int32) (post : Int32 → fcS → Prop) (h : q_X5_left t a0 post) : Met l yX5_left wm_X5_left ({ frames := 0, cells := 0, slots := 0, locals := 0 } : Room) (fcPre D adr cs N t [.ref (adr 53), .int a0]) (fQi D adr cs N post) 0 0 (faN adr N) := by
  refine f_enter (cc := cX5_left) (nL := 3) (ret := some .int) (lv := [(0, .ref (adr 53)), (1, .int a0)]) (own := RX5) (by decide) rfl (Nat.le_of_ble_eq_true rfl) rfl rfl ?_
  intro p e s m below meth c ls C hP hS hl
  have hx := C.1.1
  have hb := C.1.2.1
  unfold q_X5_left at h
  refine lv_iload_n hx hb dX5_left_0 rfl (lv_at hl 1 rfl) ?_
  refine lv_aload_n hx hb dX5_left_1 rfl (lv_at hl 0 rfl) ?_
  refine fr_get (j := 1) C hP (by omega) (fG_MO adr cs t) rfl (fun w h => List.mem_cons_of_mem _ (inl_X5 w h)) (by decide) rfl (List.mem_cons_of_mem _ mw_7_5) rfl dX5_left_2 ?_
  refine lv_irem hx hb dX5_left_5 h.1 ?_
  replace h := h.2
  refine lv_topi (fun x1 ex1 => ?_)
  replace h := h x1 ex1
  refine lv_istore_n (lv' := [(2, .int x1), (0, .ref (adr 53)), (1, .int a0)]) hx hb dX5_left_6 rfl hl (by decide) rfl (fun ls hl => ?_)
  refine lv_iload_n hx hb dX5_left_7 rfl (lv_at hl 0 rfl) ?_
  refine lv_if_ge (tgt := 20) hx hb dX5_left_8 (by decide) (fun c9 => ?_) (fun c9 => ?_)
  · replace h := h.1 c9
    refine lv_iload_n hx hb dX5_left_20 rfl (lv_at hl 0 rfl) ?_
    exact fr_iret C hP hS h dX5_left_21
  · replace h := h.2 c9
    refine lv_iload_n hx hb dX5_left_11 rfl (lv_at hl 0 rfl) ?_
    refine lv_aload_n hx hb dX5_left_12 rfl (lv_at hl 1 rfl) ?_
    refine fr_get (j := 1) C hP (by omega) (fG_MO adr cs t) rfl (fun w h => List.mem_cons_of_mem _ (inl_X5 w h)) (by decide) rfl (List.mem_cons_of_mem _ mw_7_5) rfl dX5_left_13 ?_
    refine lv_iadd hx hb dX5_left_16 ?_
    refine lv_goto (tgt := 21) hx hb dX5_left_17 (by decide) ?_
    exact fr_iret C hP hS h dX5_left_21

/-! X5.divide -/
abbrev wm_X5_divide : List Cond := Cond.code yX5_divide cX5_divide 10 none :: wsL_law
def q_X5_divide_94 (post : fcS → Prop) (k45 : Int32 → Int32 → Int32 → Int32 → Int32 → Int32 → fcS → Prop) : Nat → Int32 → Int32 → Int32 → Int32 → Int32 → Int32 → Int32 → Int32 → fcS → Prop
  | 0, _, _, _, _, _, _, _, _, _ => False
  | n + 1, v1, v2, v4, v5, v6, v7, v8, v9, t => (v5 < v9 → (q_X5_degree t v2 (fun (r12 : Int32) (t11 : fcS) => k45 v1 v2 v4 v5 v6 r12 t11))) ∧ (¬ v5 < v9 → ((vp_in (((((16 * v2) + v7) - v5) + v9)) 640) ∧ ((vp_in (((16 * v4) + v9)) 640) ∧ (q_X5_left t (((fga t 60 (Int32.toNatClampNeg (((((16 * v2) + v7) - v5) + v9)))) - (v8 * (fga t 60 (Int32.toNatClampNeg (((16 * v4) + v9))))))) (fun (r14 : Int32) (t13 : fcS) => (vp_in (((((16 * v2) + v7) - v5) + v9)) 640) ∧ (∀ t15 : fcS, t15 = fsa t13 60 (Int32.toNatClampNeg (((((16 * v2) + v7) - v5) + v9))) r14 → (∀ x16 : Int32, x16 = v9 + 1 → (q_X5_divide_94 post k45 n v1 v2 v4 v5 v6 v7 v8 x16 t15))))))))
def q_X5_divide_45 (post : fcS → Prop) : Nat → Int32 → Int32 → Int32 → Int32 → Int32 → Int32 → fcS → Prop
  | 0, _, _, _, _, _, _, _ => False
  | n + 1, v1, v2, v4, v5, v6, v7, t => (v7 < v5 → (post t)) ∧ (¬ v7 < v5 → ((vp_in (((16 * v2) + v7)) 640) ∧ ((¬ ((fgi t 53 1) : Int32) = 0) ∧ (∀ x9 : Int32, x9 = (irm (((fga t 60 (Int32.toNatClampNeg (((16 * v2) + v7)))) * v6)) ((fgi t 53 1))) → ((vp_in ((((16 * v1) + v7) - v5)) 640) ∧ (∀ t10 : fcS, t10 = fsa t 60 (Int32.toNatClampNeg ((((16 * v1) + v7) - v5))) x9 → (∃ n0, q_X5_divide_94 post (fun v1_ v2_ v4_ v5_ v6_ v7_ t_ => q_X5_divide_45 post n v1_ v2_ v4_ v5_ v6_ v7_ t_) n0 v1 v2 v4 v5 v6 v7 x9 0 t10)))))))
def q_X5_divide (t : fcS) (a0 : Int32) (a1 : Int32) (a2 : Int32) (a3 : Int32) (post : fcS → Prop) : Prop := q_X5_clear t a0 (fun (t1 : fcS) => q_X5_copy t1 a1 a2 (fun (t2 : fcS) => q_X5_degree t2 a3 (fun (r4 : Int32) (t3 : fcS) => (vp_in (((16 * a3) + r4)) 640) ∧ (q_X5_inverse t3 ((fga t3 60 (Int32.toNatClampNeg (((16 * a3) + r4))))) (fun (r6 : Int32) (t5 : fcS) => q_X5_degree t5 a1 (fun (r8 : Int32) (t7 : fcS) => ∃ n0, q_X5_divide_45 post n0 a0 a1 a3 r4 r6 r8 t7))))))
set_option maxHeartbeats 4000000 in
set_option maxRecDepth 100000 in
theorem k_X5_divide_94 {D : va_G} {adr : Nat → Nat} {cs : Nat → ClassId} {N : Nat} (hN : 67 ≤ N) {p : Program} {l : Launch} {e : Env} {s : State} {m : MethodId} {args : Array Value} {below : List Frame} {meth : Method} {c : Code} (C : fCx D adr cs N p s m args meth c cX5_divide 10 (none) RX5 wm_X5_divide) {post : fcS → Prop} {k45 : Int32 → Int32 → Int32 → Int32 → Int32 → Int32 → fcS → Prop} (hk45 : ∀ (v1 : Int32) (v2 : Int32) (v4 : Int32) (v5 : Int32) (v6 : Int32) (v7 : Int32) (t : fcS) (H : Heap) (locs : List Loc) (ls : Array Slot), k45 v1 v2 v4 v5 v6 v7 t → va_P D vwCl (fwl adr N (fG adr cs t)) H → va_S (faN adr N) s.heap H locs → lv_has ls 10 [(0, .ref (adr 53)), (1, .int v1), (2, .int v2), (4, .int v4), (5, .int v5), (6, .int v6), (7, .int v7)] → W p l e ({ frames := 1, cells := 0, slots := 0, locals := 23 } : Room) s m args below meth c H locs 0 0 (MQ below (fQv D adr cs N post) args s 0 0 (faN adr N)) (F0 m 45 ls [])) : ∀ (n : Nat) (v1 : Int32) (v2 : Int32) (v4 : Int32) (v5 : Int32) (v6 : Int32) (v7 : Int32) (v8 : Int32) (v9 : Int32) (t : fcS) (H : Heap) (locs : List Loc) (ls : Array Slot), q_X5_divide_94 post k45 n v1 v2 v4 v5 v6 v7 v8 v9 t → va_P D vwCl (fwl adr N (fG adr cs t)) H → va_S (faN adr N) s.heap H locs → lv_has ls 10 [(0, .ref (adr 53)), (1, .int v1), (2, .int v2), (4, .int v4), (5, .int v5), (6, .int v6), (7, .int v7), (8, .int v8), (9, .int v9)] → W p l e ({ frames := 1, cells := 0, slots := 0, locals := 23 } : Room) s m args below meth c H locs 0 0 (MQ below (fQv D adr cs N post) args s 0 0 (faN adr N)) (F0 m 94 ls []) := by
  have hx := C.1.1
  have hb := C.1.2.1
  intro n
  induction n with
  | zero => intro v1 v2 v4 v5 v6 v7 v8 v9 t H locs ls h; exact False.elim h
  | succ n ih =>
    intro v1 v2 v4 v5 v6 v7 v8 v9 t H locs ls h hP hS hl
    unfold q_X5_divide_94 at h
    refine lv_iload hx hb dX5_divide_94 (lv_at hl 8 rfl) ?_
    refine lv_iload hx hb dX5_divide_96 (lv_at hl 4 rfl) ?_
    refine lv_icmp_gt (tgt := 164) hx hb dX5_divide_98 (by decide) (fun c9 => ?_) (fun c9 => ?_)
    · replace h := h.1 c9
      refine lv_aload_n hx hb dX5_divide_164 rfl (lv_at hl 0 rfl) ?_
      refine lv_iload_n hx hb dX5_divide_165 rfl (lv_at hl 2 rfl) ?_
      refine fr_ci (fr_runV (n := 1) (rest := []) C (c_X5_degree l D adr cs hN t v2 _ h) hP hS (by omega) (fG_MO adr cs t) rfl (fgV mw_9_1 mw_9_2 mw_9_3 mw_1_5 mw_9_4) rfl rfl rfl (by decide +kernel) ⟨Nat.le_of_ble_eq_true rfl, Nat.le_of_ble_eq_true rfl⟩ rfl hl.1 rfl (Nat.le_of_ble_eq_true rfl) dX5_divide_166) hS (fun r12 t11 H locs h hP hS => ?_)
      refine lv_istore (lv' := [(7, .int r12), (0, .ref (adr 53)), (1, .int v1), (2, .int v2), (4, .int v4), (5, .int v5), (6, .int v6), (8, .int v8), (9, .int v9)]) hx hb dX5_divide_169 hl (by decide) rfl (fun ls hl => ?_)
      refine lv_goto (tgt := 45) hx hb dX5_divide_171 (by decide) ?_
      exact hk45 v1 v2 v4 v5 v6 r12 t11 _ _ _ h hP hS (lv_sub hl [1, 2, 3, 4, 5, 6, 0] rfl)
    · replace h := h.2 c9
      refine lv_aload_n hx hb dX5_divide_101 rfl (lv_at hl 0 rfl) ?_
      refine fr_get (j := 13) C hP (by omega) (fG_MO adr cs t) rfl (fun w h => List.mem_cons_of_mem _ (inl_X5 w h)) (by decide) rfl (List.mem_cons_of_mem _ mw_7_14) rfl dX5_divide_102 ?_
      refine lv_bipush (v := 16) hx hb dX5_divide_105 (by decide) ?_
      refine lv_iload_n hx hb dX5_divide_107 rfl (lv_at hl 2 rfl) ?_
      refine lv_imul hx hb dX5_divide_108 ?_
      refine lv_iload hx hb dX5_divide_109 (lv_at hl 6 rfl) ?_
      refine lv_iadd hx hb dX5_divide_111 ?_
      refine lv_iload hx hb dX5_divide_112 (lv_at hl 4 rfl) ?_
      refine lv_isub hx hb dX5_divide_114 ?_
      refine lv_iload hx hb dX5_divide_115 (lv_at hl 8 rfl) ?_
      refine lv_iadd hx hb dX5_divide_117 ?_
      refine lv_aload_n hx hb dX5_divide_118 rfl (lv_at hl 0 rfl) ?_
      refine lv_aload_n hx hb dX5_divide_119 rfl (lv_at hl 0 rfl) ?_
      refine fr_get (j := 13) C hP (by omega) (fG_MO adr cs t) rfl (fun w h => List.mem_cons_of_mem _ (inl_X5 w h)) (by decide) rfl (List.mem_cons_of_mem _ mw_7_14) rfl dX5_divide_120 ?_
      refine lv_bipush (v := 16) hx hb dX5_divide_123 (by decide) ?_
      refine lv_iload_n hx hb dX5_divide_125 rfl (lv_at hl 2 rfl) ?_
      refine lv_imul hx hb dX5_divide_126 ?_
      refine lv_iload hx hb dX5_divide_127 (lv_at hl 6 rfl) ?_
      refine lv_iadd hx hb dX5_divide_129 ?_
      refine lv_iload hx hb dX5_divide_130 (lv_at hl 4 rfl) ?_
      refine lv_isub hx hb dX5_divide_132 ?_
      refine lv_iload hx hb dX5_divide_133 (lv_at hl 8 rfl) ?_
      refine lv_iadd hx hb dX5_divide_135 ?_
      refine fr_iald C hP (by omega) (fG_60 adr cs t) h.1 dX5_divide_136 ?_
      replace h := h.2
      refine lv_iload hx hb dX5_divide_137 (lv_at hl 7 rfl) ?_
      refine lv_aload_n hx hb dX5_divide_139 rfl (lv_at hl 0 rfl) ?_
      refine fr_get (j := 13) C hP (by omega) (fG_MO adr cs t) rfl (fun w h => List.mem_cons_of_mem _ (inl_X5 w h)) (by decide) rfl (List.mem_cons_of_mem _ mw_7_14) rfl dX5_divide_140 ?_
      refine lv_bipush (v := 16) hx hb dX5_divide_143 (by decide) ?_
      refine lv_iload hx hb dX5_divide_145 (lv_at hl 3 rfl) ?_
      refine lv_imul hx hb dX5_divide_147 ?_
      refine lv_iload hx hb dX5_divide_148 (lv_at hl 8 rfl) ?_
      refine lv_iadd hx hb dX5_divide_150 ?_
      refine fr_iald C hP (by omega) (fG_60 adr cs t) h.1 dX5_divide_151 ?_
      replace h := h.2
      refine lv_imul hx hb dX5_divide_152 ?_
      refine lv_isub hx hb dX5_divide_153 ?_
      refine fr_ci (fr_runV (n := 1) (rest := [.int (((((16 * v2) + v7) - v5) + v9)), .ref (adr 60)]) C (c_X5_left l D adr cs hN t (((fga t 60 (Int32.toNatClampNeg (((((16 * v2) + v7) - v5) + v9)))) - (v8 * (fga t 60 (Int32.toNatClampNeg (((16 * v4) + v9))))))) _ h) hP hS (by omega) (fG_MO adr cs t) rfl (fgV mw_9_9 mw_9_10 mw_9_11 mw_1_5 mw_9_12) rfl rfl rfl (by decide +kernel) ⟨Nat.le_of_ble_eq_true rfl, Nat.le_of_ble_eq_true rfl⟩ rfl hl.1 rfl (Nat.le_of_ble_eq_true rfl) dX5_divide_154) hS (fun r14 t13 H locs h hP hS => ?_)
      refine fr_iast C hP hS (by omega) (fun u => (fG_60 adr cs u)) h.1 dX5_divide_157 (fun H locs hP hS => ?_)
      obtain ⟨t15, et15⟩ : ∃ y : fcS, y = fsa t13 60 (Int32.toNatClampNeg (((((16 * v2) + v7) - v5) + v9))) r14 := ⟨_, rfl⟩
      rw [← et15] at hP
      replace h := h.2 t15 et15
      obtain ⟨x16, ex16⟩ : ∃ y : Int32, y = v9 + 1 := ⟨_, rfl⟩
      replace h := h x16 ex16
      refine lv_iinc (v := x16) (lv' := [(9, .int x16), (0, .ref (adr 53)), (1, .int v1), (2, .int v2), (4, .int v4), (5, .int v5), (6, .int v6), (7, .int v7), (8, .int v8)]) hx hb dX5_divide_158 hl (k := 8) rfl (by rw [ex16]; rfl) (by decide) rfl (fun ls hl => ?_)
      refine lv_goto (tgt := 94) hx hb dX5_divide_161 (by decide) ?_
      exact ih v1 v2 v4 v5 v6 v7 v8 x16 t15 _ _ _ h hP hS (lv_sub hl [1, 2, 3, 4, 5, 6, 7, 8, 0] rfl)

set_option maxHeartbeats 4000000 in
set_option maxRecDepth 100000 in
theorem k_X5_divide_45 {D : va_G} {adr : Nat → Nat} {cs : Nat → ClassId} {N : Nat} (hN : 67 ≤ N) {p : Program} {l : Launch} {e : Env} {s : State} {m : MethodId} {args : Array Value} {below : List Frame} {meth : Method} {c : Code} (C : fCx D adr cs N p s m args meth c cX5_divide 10 (none) RX5 wm_X5_divide) {post : fcS → Prop} : ∀ (n : Nat) (v1 : Int32) (v2 : Int32) (v4 : Int32) (v5 : Int32) (v6 : Int32) (v7 : Int32) (t : fcS) (H : Heap) (locs : List Loc) (ls : Array Slot), q_X5_divide_45 post n v1 v2 v4 v5 v6 v7 t → va_P D vwCl (fwl adr N (fG adr cs t)) H → va_S (faN adr N) s.heap H locs → lv_has ls 10 [(0, .ref (adr 53)), (1, .int v1), (2, .int v2), (4, .int v4), (5, .int v5), (6, .int v6), (7, .int v7)] → W p l e ({ frames := 1, cells := 0, slots := 0, locals := 23 } : Room) s m args below meth c H locs 0 0 (MQ below (fQv D adr cs N post) args s 0 0 (faN adr N)) (F0 m 45 ls []) := by
  have hx := C.1.1
  have hb := C.1.2.1
  intro n
  induction n with
  | zero => intro v1 v2 v4 v5 v6 v7 t H locs ls h; exact False.elim h
  | succ n ih =>
    intro v1 v2 v4 v5 v6 v7 t H locs ls h hP hS hl
    unfold q_X5_divide_45 at h
    refine lv_iload hx hb dX5_divide_45 (lv_at hl 6 rfl) ?_
    refine lv_iload hx hb dX5_divide_47 (lv_at hl 4 rfl) ?_
    refine lv_icmp_lt (tgt := 174) hx hb dX5_divide_49 (by decide) (fun c9 => ?_) (fun c9 => ?_)
    · replace h := h.1 c9
      exact fr_vret C hP hS h dX5_divide_174
    · replace h := h.2 c9
      refine lv_aload_n hx hb dX5_divide_52 rfl (lv_at hl 0 rfl) ?_
      refine fr_get (j := 13) C hP (by omega) (fG_MO adr cs t) rfl (fun w h => List.mem_cons_of_mem _ (inl_X5 w h)) (by decide) rfl (List.mem_cons_of_mem _ mw_7_14) rfl dX5_divide_53 ?_
      refine lv_bipush (v := 16) hx hb dX5_divide_56 (by decide) ?_
      refine lv_iload_n hx hb dX5_divide_58 rfl (lv_at hl 2 rfl) ?_
      refine lv_imul hx hb dX5_divide_59 ?_
      refine lv_iload hx hb dX5_divide_60 (lv_at hl 6 rfl) ?_
      refine lv_iadd hx hb dX5_divide_62 ?_
      refine fr_iald C hP (by omega) (fG_60 adr cs t) h.1 dX5_divide_63 ?_
      replace h := h.2
      refine lv_iload hx hb dX5_divide_64 (lv_at hl 5 rfl) ?_
      refine lv_imul hx hb dX5_divide_66 ?_
      refine lv_aload_n hx hb dX5_divide_67 rfl (lv_at hl 0 rfl) ?_
      refine fr_get (j := 1) C hP (by omega) (fG_MO adr cs t) rfl (fun w h => List.mem_cons_of_mem _ (inl_X5 w h)) (by decide) rfl (List.mem_cons_of_mem _ mw_7_5) rfl dX5_divide_68 ?_
      refine lv_irem hx hb dX5_divide_71 h.1 ?_
      replace h := h.2
      refine lv_topi (fun x9 ex9 => ?_)
      replace h := h x9 ex9
      refine lv_istore (lv' := [(8, .int x9), (0, .ref (adr 53)), (1, .int v1), (2, .int v2), (4, .int v4), (5, .int v5), (6, .int v6), (7, .int v7)]) hx hb dX5_divide_72 hl (by decide) rfl (fun ls hl => ?_)
      refine lv_aload_n hx hb dX5_divide_74 rfl (lv_at hl 1 rfl) ?_
      refine fr_get (j := 13) C hP (by omega) (fG_MO adr cs t) rfl (fun w h => List.mem_cons_of_mem _ (inl_X5 w h)) (by decide) rfl (List.mem_cons_of_mem _ mw_7_14) rfl dX5_divide_75 ?_
      refine lv_bipush (v := 16) hx hb dX5_divide_78 (by decide) ?_
      refine lv_iload_n hx hb dX5_divide_80 rfl (lv_at hl 2 rfl) ?_
      refine lv_imul hx hb dX5_divide_81 ?_
      refine lv_iload hx hb dX5_divide_82 (lv_at hl 7 rfl) ?_
      refine lv_iadd hx hb dX5_divide_84 ?_
      refine lv_iload hx hb dX5_divide_85 (lv_at hl 5 rfl) ?_
      refine lv_isub hx hb dX5_divide_87 ?_
      refine lv_iload hx hb dX5_divide_88 (lv_at hl 0 rfl) ?_
      refine fr_iast C hP hS (by omega) (fun u => (fG_60 adr cs u)) h.1 dX5_divide_90 (fun H locs hP hS => ?_)
      obtain ⟨t10, et10⟩ : ∃ y : fcS, y = fsa t 60 (Int32.toNatClampNeg ((((16 * v1) + v7) - v5))) x9 := ⟨_, rfl⟩
      rw [← et10] at hP
      replace h := h.2 t10 et10
      refine lv_iconst (v := 0) hx hb dX5_divide_91 (by decide) ?_
      refine lv_istore (lv' := [(9, .int 0), (8, .int x9), (0, .ref (adr 53)), (1, .int v1), (2, .int v2), (4, .int v4), (5, .int v5), (6, .int v6), (7, .int v7)]) hx hb dX5_divide_92 hl (by decide) rfl (fun ls hl => ?_)
      obtain ⟨n9, h⟩ := h
      exact k_X5_divide_94 hN C ih n9 v1 v2 v4 v5 v6 v7 x9 0 t10 _ _ _ h hP hS (lv_sub hl [2, 3, 4, 5, 6, 7, 8, 1, 0] rfl)

set_option maxHeartbeats 4000000 in
set_option maxRecDepth 100000 in
theorem c_X5_divide (l : Launch) (D : va_G) (adr : Nat → Nat) (cs : Nat → ClassId) {N : Nat} (hN : 67 ≤ N) (t : fcS) (a0 : Int32) (a1 : Int32) (a2 : Int32) (a3 : Int32) (post : fcS → Prop) (h : q_X5_divide t a0 a1 a2 a3 post) : Met l yX5_divide wm_X5_divide ({ frames := 1, cells := 0, slots := 0, locals := 23 } : Room) (fcPre D adr cs N t [.ref (adr 53), .int a0, .int a1, .int a2, .int a3]) (fQv D adr cs N post) 0 0 (faN adr N) := by
  refine f_enter (cc := cX5_divide) (nL := 10) (ret := none) (lv := [(0, .ref (adr 53)), (1, .int a0), (2, .int a1), (3, .int a2), (4, .int a3)]) (own := RX5) (by decide) rfl (Nat.le_of_ble_eq_true rfl) rfl rfl ?_
  intro p e s m below meth c ls C hP hS hl
  have hx := C.1.1
  have hb := C.1.2.1
  unfold q_X5_divide at h
  refine lv_aload_n hx hb dX5_divide_0 rfl (lv_at hl 0 rfl) ?_
  refine lv_iload_n hx hb dX5_divide_1 rfl (lv_at hl 1 rfl) ?_
  refine fr_cv (fr_runV (n := 1) (rest := []) C (c_X5_clear l D adr cs hN t a0 _ h) hP hS (by omega) (fG_MO adr cs t) rfl (fgV mw_8_17 mw_8_18 mw_8_19 mw_1_5 mw_8_20) rfl rfl rfl (by decide +kernel) ⟨Nat.le_of_ble_eq_true rfl, Nat.le_of_ble_eq_true rfl⟩ rfl hl.1 rfl (Nat.le_of_ble_eq_true rfl) dX5_divide_2) hS (fun t1 H locs h hP hS => ?_)
  refine lv_aload_n hx hb dX5_divide_5 rfl (lv_at hl 0 rfl) ?_
  refine lv_iload_n hx hb dX5_divide_6 rfl (lv_at hl 2 rfl) ?_
  refine lv_iload_n hx hb dX5_divide_7 rfl (lv_at hl 3 rfl) ?_
  refine fr_cv (fr_runV (n := 2) (rest := []) C (c_X5_copy l D adr cs hN t1 a1 a2 _ h) hP hS (by omega) (fG_MO adr cs t1) rfl (fgV mw_8_21 mw_8_22 mw_8_23 mw_1_5 mw_9_0) rfl rfl rfl (by decide +kernel) ⟨Nat.le_of_ble_eq_true rfl, Nat.le_of_ble_eq_true rfl⟩ rfl hl.1 rfl (Nat.le_of_ble_eq_true rfl) dX5_divide_8) hS (fun t2 H locs h hP hS => ?_)
  refine lv_aload_n hx hb dX5_divide_11 rfl (lv_at hl 0 rfl) ?_
  refine lv_iload hx hb dX5_divide_12 (lv_at hl 4 rfl) ?_
  refine fr_ci (fr_runV (n := 1) (rest := []) C (c_X5_degree l D adr cs hN t2 a3 _ h) hP hS (by omega) (fG_MO adr cs t2) rfl (fgV mw_9_1 mw_9_2 mw_9_3 mw_1_5 mw_9_4) rfl rfl rfl (by decide +kernel) ⟨Nat.le_of_ble_eq_true rfl, Nat.le_of_ble_eq_true rfl⟩ rfl hl.1 rfl (Nat.le_of_ble_eq_true rfl) dX5_divide_14) hS (fun r4 t3 H locs h hP hS => ?_)
  refine lv_istore (lv' := [(5, .int r4), (0, .ref (adr 53)), (1, .int a0), (2, .int a1), (3, .int a2), (4, .int a3)]) hx hb dX5_divide_17 hl (by decide) rfl (fun ls hl => ?_)
  refine lv_aload_n hx hb dX5_divide_19 rfl (lv_at hl 1 rfl) ?_
  refine lv_aload_n hx hb dX5_divide_20 rfl (lv_at hl 1 rfl) ?_
  refine fr_get (j := 13) C hP (by omega) (fG_MO adr cs t3) rfl (fun w h => List.mem_cons_of_mem _ (inl_X5 w h)) (by decide) rfl (List.mem_cons_of_mem _ mw_7_14) rfl dX5_divide_21 ?_
  refine lv_bipush (v := 16) hx hb dX5_divide_24 (by decide) ?_
  refine lv_iload hx hb dX5_divide_26 (lv_at hl 5 rfl) ?_
  refine lv_imul hx hb dX5_divide_28 ?_
  refine lv_iload hx hb dX5_divide_29 (lv_at hl 0 rfl) ?_
  refine lv_iadd hx hb dX5_divide_31 ?_
  refine fr_iald C hP (by omega) (fG_60 adr cs t3) h.1 dX5_divide_32 ?_
  replace h := h.2
  refine fr_ci (fr_runV (n := 1) (rest := []) C (c_X5_inverse l D adr cs hN t3 ((fga t3 60 (Int32.toNatClampNeg (((16 * a3) + r4))))) _ h) hP hS (by omega) (fG_MO adr cs t3) rfl (fgV mw_9_5 mw_9_6 mw_9_7 mw_1_5 mw_9_8) rfl rfl rfl (by decide +kernel) ⟨Nat.le_of_ble_eq_true rfl, Nat.le_of_ble_eq_true rfl⟩ rfl hl.1 rfl (Nat.le_of_ble_eq_true rfl) dX5_divide_33) hS (fun r6 t5 H locs h hP hS => ?_)
  refine lv_istore (lv' := [(6, .int r6), (5, .int r4), (0, .ref (adr 53)), (1, .int a0), (2, .int a1), (3, .int a2), (4, .int a3)]) hx hb dX5_divide_36 hl (by decide) rfl (fun ls hl => ?_)
  refine lv_aload_n hx hb dX5_divide_38 rfl (lv_at hl 2 rfl) ?_
  refine lv_iload_n hx hb dX5_divide_39 rfl (lv_at hl 4 rfl) ?_
  refine fr_ci (fr_runV (n := 1) (rest := []) C (c_X5_degree l D adr cs hN t5 a1 _ h) hP hS (by omega) (fG_MO adr cs t5) rfl (fgV mw_9_1 mw_9_2 mw_9_3 mw_1_5 mw_9_4) rfl rfl rfl (by decide +kernel) ⟨Nat.le_of_ble_eq_true rfl, Nat.le_of_ble_eq_true rfl⟩ rfl hl.1 rfl (Nat.le_of_ble_eq_true rfl) dX5_divide_40) hS (fun r8 t7 H locs h hP hS => ?_)
  refine lv_istore (lv' := [(7, .int r8), (6, .int r6), (5, .int r4), (0, .ref (adr 53)), (1, .int a0), (2, .int a1), (3, .int a2), (4, .int a3)]) hx hb dX5_divide_43 hl (by decide) rfl (fun ls hl => ?_)
  obtain ⟨n9, h⟩ := h
  exact k_X5_divide_45 hN C n9 a0 a1 a3 r4 r6 r8 t7 _ _ _ h hP hS (lv_sub hl [3, 4, 5, 7, 2, 1, 0] rfl)

/-! X5.least -/
abbrev wm_X5_least : List Cond := Cond.code yX5_least cX5_least 8 (some .int) :: wsL_law
def q_X5_least_37 (post : Int32 → fcS → Prop) (k2 : Int32 → Int32 → fcS → Prop) (k20 : Int32 → Int32 → Int32 → Int32 → Int32 → fcS → Prop) : Nat → Int32 → Int32 → Int32 → Int32 → Int32 → Int32 → fcS → Prop
  | 0, _, _, _, _, _, _, _ => False
  | n + 1, v1, v3, v4, v5, v6, v7, t => ((2 * v5) ≤ v7 → (∀ x5 : Int32, x5 = (v5 * (fgi t 53 1)) → (∀ x6 : Int32, x6 = v6 + 1 → (k20 v1 v3 v4 x5 x6 t)))) ∧ (¬ (2 * v5) ≤ v7 → ((v4 = 0 → (∀ x7 : Int32, x7 = (v5 * (fgi t 53 1)) → (∀ x8 : Int32, x8 = v6 + 1 → (k20 v1 v3 v4 x7 x8 t)))) ∧ (¬ v4 = 0 → (q_X5_load t 1 v7 (fun (t9 : fcS) => q_X5_divide t9 2 3 0 1 (fun (t10 : fcS) => q_X5_degree t10 3 (fun (r12 : Int32) (t11 : fcS) => (r12 < 0 → (∀ x13 : Int32, x13 = v7 + 1 → (q_X5_least_37 post k2 k20 n v1 v3 0 v5 v6 x13 t11))) ∧ (¬ r12 < 0 → (∀ x14 : Int32, x14 = v7 + 1 → (q_X5_least_37 post k2 k20 n v1 v3 1 v5 v6 x14 t11))))))))))
def q_X5_least_20 (post : Int32 → fcS → Prop) (k2 : Int32 → Int32 → fcS → Prop) : Nat → Int32 → Int32 → Int32 → Int32 → Int32 → fcS → Prop
  | 0, _, _, _, _, _, _ => False
  | n + 1, v1, v3, v4, v5, v6, t => (v1 < (2 * v6) → ((v4 = 0 → (∀ x3 : Int32, x3 = v3 + 1 → (k2 v1 x3 t))) ∧ (¬ v4 = 0 → (post v3 t)))) ∧ (¬ v1 < (2 * v6) → ((v4 = 0 → ((v4 = 0 → (∀ x4 : Int32, x4 = v3 + 1 → (k2 v1 x4 t))) ∧ (¬ v4 = 0 → (post v3 t)))) ∧ (¬ v4 = 0 → (∃ n0, q_X5_least_37 post k2 (fun v1_ v3_ v4_ v5_ v6_ t_ => q_X5_least_20 post k2 n v1_ v3_ v4_ v5_ v6_ t_) n0 v1 v3 v4 v5 v6 v5 t))))
def q_X5_least_2 (post : Int32 → fcS → Prop) : Nat → Int32 → Int32 → fcS → Prop
  | 0, _, _, _ => False
  | n + 1, v1, v3, t => q_X5_load t 0 v3 (fun (t1 : fcS) => ∀ x2 : Int32, x2 = (fgi t1 53 1) → (∃ n0, q_X5_least_20 post (fun v1_ v3_ t_ => q_X5_least_2 post n v1_ v3_ t_) n0 v1 v3 1 x2 1 t1))
def q_X5_least (t : fcS) (a0 : Int32) (a1 : Int32) (post : Int32 → fcS → Prop) : Prop := ∃ n0, q_X5_least_2 post n0 a0 a1 t
set_option maxHeartbeats 4000000 in
set_option maxRecDepth 100000 in
theorem k_X5_least_37 {D : va_G} {adr : Nat → Nat} {cs : Nat → ClassId} {N : Nat} (hN : 67 ≤ N) {p : Program} {l : Launch} {e : Env} {s : State} {m : MethodId} {args : Array Value} {below : List Frame} {meth : Method} {c : Code} (C : fCx D adr cs N p s m args meth c cX5_least 8 (some .int) RX5 wm_X5_least) {post : Int32 → fcS → Prop} {k2 : Int32 → Int32 → fcS → Prop} (hk2 : ∀ (v1 : Int32) (v3 : Int32) (t : fcS) (H : Heap) (locs : List Loc) (ls : Array Slot), k2 v1 v3 t → va_P D vwCl (fwl adr N (fG adr cs t)) H → va_S (faN adr N) s.heap H locs → lv_has ls 8 [(0, .ref (adr 53)), (1, .int v1), (3, .int v3)] → W p l e ({ frames := 2, cells := 0, slots := 0, locals := 52 } : Room) s m args below meth c H locs 0 0 (MQ below (fQi D adr cs N post) args s 0 0 (faN adr N)) (F0 m 2 ls [])) {k20 : Int32 → Int32 → Int32 → Int32 → Int32 → fcS → Prop} (hk20 : ∀ (v1 : Int32) (v3 : Int32) (v4 : Int32) (v5 : Int32) (v6 : Int32) (t : fcS) (H : Heap) (locs : List Loc) (ls : Array Slot), k20 v1 v3 v4 v5 v6 t → va_P D vwCl (fwl adr N (fG adr cs t)) H → va_S (faN adr N) s.heap H locs → lv_has ls 8 [(0, .ref (adr 53)), (1, .int v1), (3, .int v3), (4, .int v4), (5, .int v5), (6, .int v6)] → W p l e ({ frames := 2, cells := 0, slots := 0, locals := 52 } : Room) s m args below meth c H locs 0 0 (MQ below (fQi D adr cs N post) args s 0 0 (faN adr N)) (F0 m 20 ls [])) : ∀ (n : Nat) (v1 : Int32) (v3 : Int32) (v4 : Int32) (v5 : Int32) (v6 : Int32) (v7 : Int32) (t : fcS) (H : Heap) (locs : List Loc) (ls : Array Slot), q_X5_least_37 post k2 k20 n v1 v3 v4 v5 v6 v7 t → va_P D vwCl (fwl adr N (fG adr cs t)) H → va_S (faN adr N) s.heap H locs → lv_has ls 8 [(0, .ref (adr 53)), (1, .int v1), (3, .int v3), (4, .int v4), (5, .int v5), (6, .int v6), (7, .int v7)] → W p l e ({ frames := 2, cells := 0, slots := 0, locals := 52 } : Room) s m args below meth c H locs 0 0 (MQ below (fQi D adr cs N post) args s 0 0 (faN adr N)) (F0 m 37 ls []) := by
  have hx := C.1.1
  have hb := C.1.2.1
  intro n
  induction n with
  | zero => intro v1 v3 v4 v5 v6 v7 t H locs ls h; exact False.elim h
  | succ n ih =>
    intro v1 v3 v4 v5 v6 v7 t H locs ls h hP hS hl
    unfold q_X5_least_37 at h
    refine lv_iload hx hb dX5_least_37 (lv_at hl 6 rfl) ?_
    refine lv_iconst (v := 2) hx hb dX5_least_39 (by decide) ?_
    refine lv_iload hx hb dX5_least_40 (lv_at hl 4 rfl) ?_
    refine lv_imul hx hb dX5_least_42 ?_
    refine lv_icmp_ge (tgt := 87) hx hb dX5_least_43 (by decide) (fun c9 => ?_) (fun c9 => ?_)
    · replace h := h.1 c9
      refine lv_iload hx hb dX5_least_87 (lv_at hl 4 rfl) ?_
      refine lv_aload_n hx hb dX5_least_89 rfl (lv_at hl 0 rfl) ?_
      refine fr_get (j := 1) C hP (by omega) (fG_MO adr cs t) rfl (fun w h => List.mem_cons_of_mem _ (inl_X5 w h)) (by decide) rfl (List.mem_cons_of_mem _ mw_7_5) rfl dX5_least_90 ?_
      refine lv_imul hx hb dX5_least_93 ?_
      refine lv_topi (fun x5 ex5 => ?_)
      replace h := h x5 ex5
      refine lv_istore (lv' := [(5, .int x5), (0, .ref (adr 53)), (1, .int v1), (3, .int v3), (4, .int v4), (6, .int v6), (7, .int v7)]) hx hb dX5_least_94 hl (by decide) rfl (fun ls hl => ?_)
      obtain ⟨x6, ex6⟩ : ∃ y : Int32, y = v6 + 1 := ⟨_, rfl⟩
      replace h := h x6 ex6
      refine lv_iinc (v := x6) (lv' := [(6, .int x6), (5, .int x5), (0, .ref (adr 53)), (1, .int v1), (3, .int v3), (4, .int v4), (7, .int v7)]) hx hb dX5_least_96 hl (k := 5) rfl (by rw [ex6]; rfl) (by decide) rfl (fun ls hl => ?_)
      refine lv_goto (tgt := 20) hx hb dX5_least_99 (by decide) ?_
      exact hk20 v1 v3 v4 x5 x6 t _ _ _ h hP hS (lv_sub hl [2, 3, 4, 5, 1, 0] rfl)
    · replace h := h.2 c9
      refine lv_iload hx hb dX5_least_46 (lv_at hl 3 rfl) ?_
      refine lv_if_eq (tgt := 87) hx hb dX5_least_48 (by decide) (fun c9 => ?_) (fun c9 => ?_)
      · replace h := h.1 c9
        refine lv_iload hx hb dX5_least_87 (lv_at hl 4 rfl) ?_
        refine lv_aload_n hx hb dX5_least_89 rfl (lv_at hl 0 rfl) ?_
        refine fr_get (j := 1) C hP (by omega) (fG_MO adr cs t) rfl (fun w h => List.mem_cons_of_mem _ (inl_X5 w h)) (by decide) rfl (List.mem_cons_of_mem _ mw_7_5) rfl dX5_least_90 ?_
        refine lv_imul hx hb dX5_least_93 ?_
        refine lv_topi (fun x7 ex7 => ?_)
        replace h := h x7 ex7
        refine lv_istore (lv' := [(5, .int x7), (0, .ref (adr 53)), (1, .int v1), (3, .int v3), (4, .int v4), (6, .int v6), (7, .int v7)]) hx hb dX5_least_94 hl (by decide) rfl (fun ls hl => ?_)
        obtain ⟨x8, ex8⟩ : ∃ y : Int32, y = v6 + 1 := ⟨_, rfl⟩
        replace h := h x8 ex8
        refine lv_iinc (v := x8) (lv' := [(6, .int x8), (5, .int x7), (0, .ref (adr 53)), (1, .int v1), (3, .int v3), (4, .int v4), (7, .int v7)]) hx hb dX5_least_96 hl (k := 5) rfl (by rw [ex8]; rfl) (by decide) rfl (fun ls hl => ?_)
        refine lv_goto (tgt := 20) hx hb dX5_least_99 (by decide) ?_
        exact hk20 v1 v3 v4 x7 x8 t _ _ _ h hP hS (lv_sub hl [2, 3, 4, 5, 1, 0] rfl)
      · replace h := h.2 c9
        refine lv_aload_n hx hb dX5_least_51 rfl (lv_at hl 0 rfl) ?_
        refine lv_iconst (v := 1) hx hb dX5_least_52 (by decide) ?_
        refine lv_iload hx hb dX5_least_53 (lv_at hl 6 rfl) ?_
        refine fr_cv (fr_runV (n := 2) (rest := []) C (c_X5_load l D adr cs hN t 1 v7 _ h) hP hS (by omega) (fG_MO adr cs t) rfl (fgV mw_8_9 mw_8_10 mw_8_11 mw_1_5 mw_8_12) rfl rfl rfl (by decide +kernel) ⟨Nat.le_of_ble_eq_true rfl, Nat.le_of_ble_eq_true rfl⟩ rfl hl.1 rfl (Nat.le_of_ble_eq_true rfl) dX5_least_55) hS (fun t9 H locs h hP hS => ?_)
        refine lv_aload_n hx hb dX5_least_58 rfl (lv_at hl 0 rfl) ?_
        refine lv_iconst (v := 2) hx hb dX5_least_59 (by decide) ?_
        refine lv_iconst (v := 3) hx hb dX5_least_60 (by decide) ?_
        refine lv_iconst (v := 0) hx hb dX5_least_61 (by decide) ?_
        refine lv_iconst (v := 1) hx hb dX5_least_62 (by decide) ?_
        refine fr_cv (fr_runV (n := 4) (rest := []) C (c_X5_divide l D adr cs hN t9 2 3 0 1 _ h) hP hS (by omega) (fG_MO adr cs t9) rfl (fgV mw_8_13 mw_8_14 mw_8_15 mw_1_5 mw_8_16) rfl rfl rfl (by decide +kernel) ⟨Nat.le_of_ble_eq_true rfl, Nat.le_of_ble_eq_true rfl⟩ rfl hl.1 rfl (Nat.le_of_ble_eq_true rfl) dX5_least_63) hS (fun t10 H locs h hP hS => ?_)
        refine lv_aload_n hx hb dX5_least_66 rfl (lv_at hl 0 rfl) ?_
        refine lv_iconst (v := 3) hx hb dX5_least_67 (by decide) ?_
        refine fr_ci (fr_runV (n := 1) (rest := []) C (c_X5_degree l D adr cs hN t10 3 _ h) hP hS (by omega) (fG_MO adr cs t10) rfl (fgV mw_9_1 mw_9_2 mw_9_3 mw_1_5 mw_9_4) rfl rfl rfl (by decide +kernel) ⟨Nat.le_of_ble_eq_true rfl, Nat.le_of_ble_eq_true rfl⟩ rfl hl.1 rfl (Nat.le_of_ble_eq_true rfl) dX5_least_68) hS (fun r12 t11 H locs h hP hS => ?_)
        refine lv_if_lt (tgt := 78) hx hb dX5_least_71 (by decide) (fun c9 => ?_) (fun c9 => ?_)
        · replace h := h.1 c9
          refine lv_iconst (v := 0) hx hb dX5_least_78 (by decide) ?_
          refine lv_istore (lv' := [(4, .int 0), (0, .ref (adr 53)), (1, .int v1), (3, .int v3), (5, .int v5), (6, .int v6), (7, .int v7)]) hx hb dX5_least_79 hl (by decide) rfl (fun ls hl => ?_)
          obtain ⟨x13, ex13⟩ : ∃ y : Int32, y = v7 + 1 := ⟨_, rfl⟩
          replace h := h x13 ex13
          refine lv_iinc (v := x13) (lv' := [(7, .int x13), (4, .int 0), (0, .ref (adr 53)), (1, .int v1), (3, .int v3), (5, .int v5), (6, .int v6)]) hx hb dX5_least_81 hl (k := 6) rfl (by rw [ex13]; rfl) (by decide) rfl (fun ls hl => ?_)
          refine lv_goto (tgt := 37) hx hb dX5_least_84 (by decide) ?_
          exact ih v1 v3 0 v5 v6 x13 t11 _ _ _ h hP hS (lv_sub hl [2, 3, 4, 1, 5, 6, 0] rfl)
        · replace h := h.2 c9
          refine lv_iconst (v := 1) hx hb dX5_least_74 (by decide) ?_
          refine lv_goto (tgt := 79) hx hb dX5_least_75 (by decide) ?_
          refine lv_istore (lv' := [(4, .int 1), (0, .ref (adr 53)), (1, .int v1), (3, .int v3), (5, .int v5), (6, .int v6), (7, .int v7)]) hx hb dX5_least_79 hl (by decide) rfl (fun ls hl => ?_)
          obtain ⟨x14, ex14⟩ : ∃ y : Int32, y = v7 + 1 := ⟨_, rfl⟩
          replace h := h x14 ex14
          refine lv_iinc (v := x14) (lv' := [(7, .int x14), (4, .int 1), (0, .ref (adr 53)), (1, .int v1), (3, .int v3), (5, .int v5), (6, .int v6)]) hx hb dX5_least_81 hl (k := 6) rfl (by rw [ex14]; rfl) (by decide) rfl (fun ls hl => ?_)
          refine lv_goto (tgt := 37) hx hb dX5_least_84 (by decide) ?_
          exact ih v1 v3 1 v5 v6 x14 t11 _ _ _ h hP hS (lv_sub hl [2, 3, 4, 1, 5, 6, 0] rfl)

set_option maxHeartbeats 4000000 in
set_option maxRecDepth 100000 in
theorem k_X5_least_20 {D : va_G} {adr : Nat → Nat} {cs : Nat → ClassId} {N : Nat} (hN : 67 ≤ N) {p : Program} {l : Launch} {e : Env} {s : State} {m : MethodId} {args : Array Value} {below : List Frame} {meth : Method} {c : Code} (C : fCx D adr cs N p s m args meth c cX5_least 8 (some .int) RX5 wm_X5_least) {post : Int32 → fcS → Prop} {k2 : Int32 → Int32 → fcS → Prop} (hk2 : ∀ (v1 : Int32) (v3 : Int32) (t : fcS) (H : Heap) (locs : List Loc) (ls : Array Slot), k2 v1 v3 t → va_P D vwCl (fwl adr N (fG adr cs t)) H → va_S (faN adr N) s.heap H locs → lv_has ls 8 [(0, .ref (adr 53)), (1, .int v1), (3, .int v3)] → W p l e ({ frames := 2, cells := 0, slots := 0, locals := 52 } : Room) s m args below meth c H locs 0 0 (MQ below (fQi D adr cs N post) args s 0 0 (faN adr N)) (F0 m 2 ls [])) : ∀ (n : Nat) (v1 : Int32) (v3 : Int32) (v4 : Int32) (v5 : Int32) (v6 : Int32) (t : fcS) (H : Heap) (locs : List Loc) (ls : Array Slot), q_X5_least_20 post k2 n v1 v3 v4 v5 v6 t → va_P D vwCl (fwl adr N (fG adr cs t)) H → va_S (faN adr N) s.heap H locs → lv_has ls 8 [(0, .ref (adr 53)), (1, .int v1), (3, .int v3), (4, .int v4), (5, .int v5), (6, .int v6)] → W p l e ({ frames := 2, cells := 0, slots := 0, locals := 52 } : Room) s m args below meth c H locs 0 0 (MQ below (fQi D adr cs N post) args s 0 0 (faN adr N)) (F0 m 20 ls []) := by
  have hx := C.1.1
  have hb := C.1.2.1
  intro n
  induction n with
  | zero => intro v1 v3 v4 v5 v6 t H locs ls h; exact False.elim h
  | succ n ih =>
    intro v1 v3 v4 v5 v6 t H locs ls h hP hS hl
    unfold q_X5_least_20 at h
    refine lv_iconst (v := 2) hx hb dX5_least_20 (by decide) ?_
    refine lv_iload hx hb dX5_least_21 (lv_at hl 5 rfl) ?_
    refine lv_imul hx hb dX5_least_23 ?_
    refine lv_iload_n hx hb dX5_least_24 rfl (lv_at hl 1 rfl) ?_
    refine lv_icmp_gt (tgt := 102) hx hb dX5_least_25 (by decide) (fun c9 => ?_) (fun c9 => ?_)
    · replace h := h.1 c9
      refine lv_iload hx hb dX5_least_102 (lv_at hl 3 rfl) ?_
      refine lv_if_eq (tgt := 109) hx hb dX5_least_104 (by decide) (fun c9 => ?_) (fun c9 => ?_)
      · replace h := h.1 c9
        obtain ⟨x3, ex3⟩ : ∃ y : Int32, y = v3 + 1 := ⟨_, rfl⟩
        replace h := h x3 ex3
        refine lv_iinc (v := x3) (lv' := [(3, .int x3), (0, .ref (adr 53)), (1, .int v1), (4, .int v4), (5, .int v5), (6, .int v6)]) hx hb dX5_least_109 hl (k := 2) rfl (by rw [ex3]; rfl) (by decide) rfl (fun ls hl => ?_)
        refine lv_goto (tgt := 2) hx hb dX5_least_112 (by decide) ?_
        exact hk2 v1 x3 t _ _ _ h hP hS (lv_sub hl [1, 2, 0] rfl)
      · replace h := h.2 c9
        refine lv_iload_n hx hb dX5_least_107 rfl (lv_at hl 2 rfl) ?_
        exact fr_iret C hP hS h dX5_least_108
    · replace h := h.2 c9
      refine lv_iload hx hb dX5_least_28 (lv_at hl 3 rfl) ?_
      refine lv_if_eq (tgt := 102) hx hb dX5_least_30 (by decide) (fun c9 => ?_) (fun c9 => ?_)
      · replace h := h.1 c9
        refine lv_iload hx hb dX5_least_102 (lv_at hl 3 rfl) ?_
        refine lv_if_eq (tgt := 109) hx hb dX5_least_104 (by decide) (fun c9 => ?_) (fun c9 => ?_)
        · replace h := h.1 c9
          obtain ⟨x4, ex4⟩ : ∃ y : Int32, y = v3 + 1 := ⟨_, rfl⟩
          replace h := h x4 ex4
          refine lv_iinc (v := x4) (lv' := [(3, .int x4), (0, .ref (adr 53)), (1, .int v1), (4, .int v4), (5, .int v5), (6, .int v6)]) hx hb dX5_least_109 hl (k := 2) rfl (by rw [ex4]; rfl) (by decide) rfl (fun ls hl => ?_)
          refine lv_goto (tgt := 2) hx hb dX5_least_112 (by decide) ?_
          exact hk2 v1 x4 t _ _ _ h hP hS (lv_sub hl [1, 2, 0] rfl)
        · replace h := h.2 c9
          refine lv_iload_n hx hb dX5_least_107 rfl (lv_at hl 2 rfl) ?_
          exact fr_iret C hP hS h dX5_least_108
      · replace h := h.2 c9
        refine lv_iload hx hb dX5_least_33 (lv_at hl 4 rfl) ?_
        refine lv_istore (lv' := [(7, .int v5), (0, .ref (adr 53)), (1, .int v1), (3, .int v3), (4, .int v4), (5, .int v5), (6, .int v6)]) hx hb dX5_least_35 hl (by decide) rfl (fun ls hl => ?_)
        obtain ⟨n9, h⟩ := h
        exact k_X5_least_37 hN C hk2 ih n9 v1 v3 v4 v5 v6 v5 t _ _ _ h hP hS (lv_sub hl [1, 2, 3, 4, 5, 6, 0] rfl)

set_option maxHeartbeats 4000000 in
set_option maxRecDepth 100000 in
theorem k_X5_least_2 {D : va_G} {adr : Nat → Nat} {cs : Nat → ClassId} {N : Nat} (hN : 67 ≤ N) {p : Program} {l : Launch} {e : Env} {s : State} {m : MethodId} {args : Array Value} {below : List Frame} {meth : Method} {c : Code} (C : fCx D adr cs N p s m args meth c cX5_least 8 (some .int) RX5 wm_X5_least) {post : Int32 → fcS → Prop} : ∀ (n : Nat) (v1 : Int32) (v3 : Int32) (t : fcS) (H : Heap) (locs : List Loc) (ls : Array Slot), q_X5_least_2 post n v1 v3 t → va_P D vwCl (fwl adr N (fG adr cs t)) H → va_S (faN adr N) s.heap H locs → lv_has ls 8 [(0, .ref (adr 53)), (1, .int v1), (3, .int v3)] → W p l e ({ frames := 2, cells := 0, slots := 0, locals := 52 } : Room) s m args below meth c H locs 0 0 (MQ below (fQi D adr cs N post) args s 0 0 (faN adr N)) (F0 m 2 ls []) := by
  have hx := C.1.1
  have hb := C.1.2.1
  intro n
  induction n with
  | zero => intro v1 v3 t H locs ls h; exact False.elim h
  | succ n ih =>
    intro v1 v3 t H locs ls h hP hS hl
    unfold q_X5_least_2 at h
    refine lv_aload_n hx hb dX5_least_2 rfl (lv_at hl 0 rfl) ?_
    refine lv_iconst (v := 0) hx hb dX5_least_3 (by decide) ?_
    refine lv_iload_n hx hb dX5_least_4 rfl (lv_at hl 2 rfl) ?_
    refine fr_cv (fr_runV (n := 2) (rest := []) C (c_X5_load l D adr cs hN t 0 v3 _ h) hP hS (by omega) (fG_MO adr cs t) rfl (fgV mw_8_9 mw_8_10 mw_8_11 mw_1_5 mw_8_12) rfl rfl rfl (by decide +kernel) ⟨Nat.le_of_ble_eq_true rfl, Nat.le_of_ble_eq_true rfl⟩ rfl hl.1 rfl (Nat.le_of_ble_eq_true rfl) dX5_least_5) hS (fun t1 H locs h hP hS => ?_)
    refine lv_iconst (v := 1) hx hb dX5_least_8 (by decide) ?_
    refine lv_istore (lv' := [(4, .int 1), (0, .ref (adr 53)), (1, .int v1), (3, .int v3)]) hx hb dX5_least_9 hl (by decide) rfl (fun ls hl => ?_)
    refine lv_aload_n hx hb dX5_least_11 rfl (lv_at hl 1 rfl) ?_
    refine fr_get (j := 1) C hP (by omega) (fG_MO adr cs t1) rfl (fun w h => List.mem_cons_of_mem _ (inl_X5 w h)) (by decide) rfl (List.mem_cons_of_mem _ mw_7_5) rfl dX5_least_12 ?_
    refine lv_topi (fun x2 ex2 => ?_)
    replace h := h x2 ex2
    refine lv_istore (lv' := [(5, .int x2), (4, .int 1), (0, .ref (adr 53)), (1, .int v1), (3, .int v3)]) hx hb dX5_least_15 hl (by decide) rfl (fun ls hl => ?_)
    refine lv_iconst (v := 1) hx hb dX5_least_17 (by decide) ?_
    refine lv_istore (lv' := [(6, .int 1), (5, .int x2), (4, .int 1), (0, .ref (adr 53)), (1, .int v1), (3, .int v3)]) hx hb dX5_least_18 hl (by decide) rfl (fun ls hl => ?_)
    obtain ⟨n9, h⟩ := h
    exact k_X5_least_20 hN C ih n9 v1 v3 1 x2 1 t1 _ _ _ h hP hS (lv_sub hl [3, 4, 5, 2, 1, 0] rfl)

set_option maxHeartbeats 4000000 in
set_option maxRecDepth 100000 in
theorem c_X5_least (l : Launch) (D : va_G) (adr : Nat → Nat) (cs : Nat → ClassId) {N : Nat} (hN : 67 ≤ N) (t : fcS) (a0 : Int32) (a1 : Int32) (post : Int32 → fcS → Prop) (h : q_X5_least t a0 a1 post) : Met l yX5_least wm_X5_least ({ frames := 2, cells := 0, slots := 0, locals := 52 } : Room) (fcPre D adr cs N t [.ref (adr 53), .int a0, .int a1]) (fQi D adr cs N post) 0 0 (faN adr N) := by
  refine f_enter (cc := cX5_least) (nL := 8) (ret := some .int) (lv := [(0, .ref (adr 53)), (1, .int a0), (2, .int a1)]) (own := RX5) (by decide) rfl (Nat.le_of_ble_eq_true rfl) rfl rfl ?_
  intro p e s m below meth c ls C hP hS hl
  have hx := C.1.1
  have hb := C.1.2.1
  unfold q_X5_least at h
  refine lv_iload_n hx hb dX5_least_0 rfl (lv_at hl 2 rfl) ?_
  refine lv_istore_n (lv' := [(3, .int a1), (0, .ref (adr 53)), (1, .int a0), (2, .int a1)]) hx hb dX5_least_1 rfl hl (by decide) rfl (fun ls hl => ?_)
  obtain ⟨n9, h⟩ := h
  exact k_X5_least_2 hN C n9 a0 a1 t _ _ _ h hP hS (lv_sub hl [1, 2, 0] rfl)

/-! X5.multiply -/
abbrev wm_X5_multiply : List Cond := Cond.code yX5_multiply cX5_multiply 8 none :: wsL_law
def q_X5_multiply_32 (post : fcS → Prop) (k22 : Int32 → Int32 → Int32 → Int32 → Int32 → Int32 → fcS → Prop) : Nat → Int32 → Int32 → Int32 → Int32 → Int32 → Int32 → Int32 → fcS → Prop
  | 0, _, _, _, _, _, _, _, _ => False
  | n + 1, v1, v2, v3, v4, v5, v6, v7, t => (v5 < v7 → (∀ x6 : Int32, x6 = v6 + 1 → (k22 v1 v2 v3 v4 v5 x6 t))) ∧ (¬ v5 < v7 → ((vp_in ((((16 * v1) + v6) + v7)) 640) ∧ ((vp_in (((16 * v2) + v6)) 640) ∧ ((vp_in (((16 * v3) + v7)) 640) ∧ ((¬ ((fgi t 53 1) : Int32) = 0) ∧ ((vp_in ((((16 * v1) + v6) + v7)) 640) ∧ (∀ t7 : fcS, t7 = fsa t 60 (Int32.toNatClampNeg ((((16 * v1) + v6) + v7))) ((irm (((fga t 60 (Int32.toNatClampNeg ((((16 * v1) + v6) + v7)))) + ((fga t 60 (Int32.toNatClampNeg (((16 * v2) + v6)))) * (fga t 60 (Int32.toNatClampNeg (((16 * v3) + v7))))))) ((fgi t 53 1)))) → (∀ x8 : Int32, x8 = v7 + 1 → (q_X5_multiply_32 post k22 n v1 v2 v3 v4 v5 v6 x8 t7)))))))))
def q_X5_multiply_22 (post : fcS → Prop) : Nat → Int32 → Int32 → Int32 → Int32 → Int32 → Int32 → fcS → Prop
  | 0, _, _, _, _, _, _, _ => False
  | n + 1, v1, v2, v3, v4, v5, v6, t => (v4 < v6 → (post t)) ∧ (¬ v4 < v6 → (∃ n0, q_X5_multiply_32 post (fun v1_ v2_ v3_ v4_ v5_ v6_ t_ => q_X5_multiply_22 post n v1_ v2_ v3_ v4_ v5_ v6_ t_) n0 v1 v2 v3 v4 v5 v6 0 t))
def q_X5_multiply (t : fcS) (a0 : Int32) (a1 : Int32) (a2 : Int32) (post : fcS → Prop) : Prop := q_X5_clear t a0 (fun (t1 : fcS) => q_X5_degree t1 a1 (fun (r3 : Int32) (t2 : fcS) => q_X5_degree t2 a2 (fun (r5 : Int32) (t4 : fcS) => ∃ n0, q_X5_multiply_22 post n0 a0 a1 a2 r3 r5 0 t4)))
set_option maxHeartbeats 4000000 in
set_option maxRecDepth 100000 in
theorem k_X5_multiply_32 {D : va_G} {adr : Nat → Nat} {cs : Nat → ClassId} {N : Nat} (hN : 67 ≤ N) {p : Program} {l : Launch} {e : Env} {s : State} {m : MethodId} {args : Array Value} {below : List Frame} {meth : Method} {c : Code} (C : fCx D adr cs N p s m args meth c cX5_multiply 8 (none) RX5 wm_X5_multiply) {post : fcS → Prop} {k22 : Int32 → Int32 → Int32 → Int32 → Int32 → Int32 → fcS → Prop} (hk22 : ∀ (v1 : Int32) (v2 : Int32) (v3 : Int32) (v4 : Int32) (v5 : Int32) (v6 : Int32) (t : fcS) (H : Heap) (locs : List Loc) (ls : Array Slot), k22 v1 v2 v3 v4 v5 v6 t → va_P D vwCl (fwl adr N (fG adr cs t)) H → va_S (faN adr N) s.heap H locs → lv_has ls 8 [(0, .ref (adr 53)), (1, .int v1), (2, .int v2), (3, .int v3), (4, .int v4), (5, .int v5), (6, .int v6)] → W p l e ({ frames := 1, cells := 0, slots := 0, locals := 22 } : Room) s m args below meth c H locs 0 0 (MQ below (fQv D adr cs N post) args s 0 0 (faN adr N)) (F0 m 22 ls [])) : ∀ (n : Nat) (v1 : Int32) (v2 : Int32) (v3 : Int32) (v4 : Int32) (v5 : Int32) (v6 : Int32) (v7 : Int32) (t : fcS) (H : Heap) (locs : List Loc) (ls : Array Slot), q_X5_multiply_32 post k22 n v1 v2 v3 v4 v5 v6 v7 t → va_P D vwCl (fwl adr N (fG adr cs t)) H → va_S (faN adr N) s.heap H locs → lv_has ls 8 [(0, .ref (adr 53)), (1, .int v1), (2, .int v2), (3, .int v3), (4, .int v4), (5, .int v5), (6, .int v6), (7, .int v7)] → W p l e ({ frames := 1, cells := 0, slots := 0, locals := 22 } : Room) s m args below meth c H locs 0 0 (MQ below (fQv D adr cs N post) args s 0 0 (faN adr N)) (F0 m 32 ls []) := by
  have hx := C.1.1
  have hb := C.1.2.1
  intro n
  induction n with
  | zero => intro v1 v2 v3 v4 v5 v6 v7 t H locs ls h; exact False.elim h
  | succ n ih =>
    intro v1 v2 v3 v4 v5 v6 v7 t H locs ls h hP hS hl
    unfold q_X5_multiply_32 at h
    refine lv_iload hx hb dX5_multiply_32 (lv_at hl 7 rfl) ?_
    refine lv_iload hx hb dX5_multiply_34 (lv_at hl 5 rfl) ?_
    refine lv_icmp_gt (tgt := 106) hx hb dX5_multiply_36 (by decide) (fun c9 => ?_) (fun c9 => ?_)
    · replace h := h.1 c9
      obtain ⟨x6, ex6⟩ : ∃ y : Int32, y = v6 + 1 := ⟨_, rfl⟩
      replace h := h x6 ex6
      refine lv_iinc (v := x6) (lv' := [(6, .int x6), (0, .ref (adr 53)), (1, .int v1), (2, .int v2), (3, .int v3), (4, .int v4), (5, .int v5), (7, .int v7)]) hx hb dX5_multiply_106 hl (k := 6) rfl (by rw [ex6]; rfl) (by decide) rfl (fun ls hl => ?_)
      refine lv_goto (tgt := 22) hx hb dX5_multiply_109 (by decide) ?_
      exact hk22 v1 v2 v3 v4 v5 x6 t _ _ _ h hP hS (lv_sub hl [1, 2, 3, 4, 5, 6, 0] rfl)
    · replace h := h.2 c9
      refine lv_aload_n hx hb dX5_multiply_39 rfl (lv_at hl 0 rfl) ?_
      refine fr_get (j := 13) C hP (by omega) (fG_MO adr cs t) rfl (fun w h => List.mem_cons_of_mem _ (inl_X5 w h)) (by decide) rfl (List.mem_cons_of_mem _ mw_7_14) rfl dX5_multiply_40 ?_
      refine lv_bipush (v := 16) hx hb dX5_multiply_43 (by decide) ?_
      refine lv_iload_n hx hb dX5_multiply_45 rfl (lv_at hl 1 rfl) ?_
      refine lv_imul hx hb dX5_multiply_46 ?_
      refine lv_iload hx hb dX5_multiply_47 (lv_at hl 6 rfl) ?_
      refine lv_iadd hx hb dX5_multiply_49 ?_
      refine lv_iload hx hb dX5_multiply_50 (lv_at hl 7 rfl) ?_
      refine lv_iadd hx hb dX5_multiply_52 ?_
      refine lv_aload_n hx hb dX5_multiply_53 rfl (lv_at hl 0 rfl) ?_
      refine fr_get (j := 13) C hP (by omega) (fG_MO adr cs t) rfl (fun w h => List.mem_cons_of_mem _ (inl_X5 w h)) (by decide) rfl (List.mem_cons_of_mem _ mw_7_14) rfl dX5_multiply_54 ?_
      refine lv_bipush (v := 16) hx hb dX5_multiply_57 (by decide) ?_
      refine lv_iload_n hx hb dX5_multiply_59 rfl (lv_at hl 1 rfl) ?_
      refine lv_imul hx hb dX5_multiply_60 ?_
      refine lv_iload hx hb dX5_multiply_61 (lv_at hl 6 rfl) ?_
      refine lv_iadd hx hb dX5_multiply_63 ?_
      refine lv_iload hx hb dX5_multiply_64 (lv_at hl 7 rfl) ?_
      refine lv_iadd hx hb dX5_multiply_66 ?_
      refine fr_iald C hP (by omega) (fG_60 adr cs t) h.1 dX5_multiply_67 ?_
      replace h := h.2
      refine lv_aload_n hx hb dX5_multiply_68 rfl (lv_at hl 0 rfl) ?_
      refine fr_get (j := 13) C hP (by omega) (fG_MO adr cs t) rfl (fun w h => List.mem_cons_of_mem _ (inl_X5 w h)) (by decide) rfl (List.mem_cons_of_mem _ mw_7_14) rfl dX5_multiply_69 ?_
      refine lv_bipush (v := 16) hx hb dX5_multiply_72 (by decide) ?_
      refine lv_iload_n hx hb dX5_multiply_74 rfl (lv_at hl 2 rfl) ?_
      refine lv_imul hx hb dX5_multiply_75 ?_
      refine lv_iload hx hb dX5_multiply_76 (lv_at hl 6 rfl) ?_
      refine lv_iadd hx hb dX5_multiply_78 ?_
      refine fr_iald C hP (by omega) (fG_60 adr cs t) h.1 dX5_multiply_79 ?_
      replace h := h.2
      refine lv_aload_n hx hb dX5_multiply_80 rfl (lv_at hl 0 rfl) ?_
      refine fr_get (j := 13) C hP (by omega) (fG_MO adr cs t) rfl (fun w h => List.mem_cons_of_mem _ (inl_X5 w h)) (by decide) rfl (List.mem_cons_of_mem _ mw_7_14) rfl dX5_multiply_81 ?_
      refine lv_bipush (v := 16) hx hb dX5_multiply_84 (by decide) ?_
      refine lv_iload_n hx hb dX5_multiply_86 rfl (lv_at hl 3 rfl) ?_
      refine lv_imul hx hb dX5_multiply_87 ?_
      refine lv_iload hx hb dX5_multiply_88 (lv_at hl 7 rfl) ?_
      refine lv_iadd hx hb dX5_multiply_90 ?_
      refine fr_iald C hP (by omega) (fG_60 adr cs t) h.1 dX5_multiply_91 ?_
      replace h := h.2
      refine lv_imul hx hb dX5_multiply_92 ?_
      refine lv_iadd hx hb dX5_multiply_93 ?_
      refine lv_aload_n hx hb dX5_multiply_94 rfl (lv_at hl 0 rfl) ?_
      refine fr_get (j := 1) C hP (by omega) (fG_MO adr cs t) rfl (fun w h => List.mem_cons_of_mem _ (inl_X5 w h)) (by decide) rfl (List.mem_cons_of_mem _ mw_7_5) rfl dX5_multiply_95 ?_
      refine lv_irem hx hb dX5_multiply_98 h.1 ?_
      replace h := h.2
      refine fr_iast C hP hS (by omega) (fun u => (fG_60 adr cs u)) h.1 dX5_multiply_99 (fun H locs hP hS => ?_)
      obtain ⟨t7, et7⟩ : ∃ y : fcS, y = fsa t 60 (Int32.toNatClampNeg ((((16 * v1) + v6) + v7))) ((irm (((fga t 60 (Int32.toNatClampNeg ((((16 * v1) + v6) + v7)))) + ((fga t 60 (Int32.toNatClampNeg (((16 * v2) + v6)))) * (fga t 60 (Int32.toNatClampNeg (((16 * v3) + v7))))))) ((fgi t 53 1)))) := ⟨_, rfl⟩
      rw [← et7] at hP
      replace h := h.2 t7 et7
      obtain ⟨x8, ex8⟩ : ∃ y : Int32, y = v7 + 1 := ⟨_, rfl⟩
      replace h := h x8 ex8
      refine lv_iinc (v := x8) (lv' := [(7, .int x8), (0, .ref (adr 53)), (1, .int v1), (2, .int v2), (3, .int v3), (4, .int v4), (5, .int v5), (6, .int v6)]) hx hb dX5_multiply_100 hl (k := 7) rfl (by rw [ex8]; rfl) (by decide) rfl (fun ls hl => ?_)
      refine lv_goto (tgt := 32) hx hb dX5_multiply_103 (by decide) ?_
      exact ih v1 v2 v3 v4 v5 v6 x8 t7 _ _ _ h hP hS (lv_sub hl [1, 2, 3, 4, 5, 6, 7, 0] rfl)

set_option maxHeartbeats 4000000 in
set_option maxRecDepth 100000 in
theorem k_X5_multiply_22 {D : va_G} {adr : Nat → Nat} {cs : Nat → ClassId} {N : Nat} (hN : 67 ≤ N) {p : Program} {l : Launch} {e : Env} {s : State} {m : MethodId} {args : Array Value} {below : List Frame} {meth : Method} {c : Code} (C : fCx D adr cs N p s m args meth c cX5_multiply 8 (none) RX5 wm_X5_multiply) {post : fcS → Prop} : ∀ (n : Nat) (v1 : Int32) (v2 : Int32) (v3 : Int32) (v4 : Int32) (v5 : Int32) (v6 : Int32) (t : fcS) (H : Heap) (locs : List Loc) (ls : Array Slot), q_X5_multiply_22 post n v1 v2 v3 v4 v5 v6 t → va_P D vwCl (fwl adr N (fG adr cs t)) H → va_S (faN adr N) s.heap H locs → lv_has ls 8 [(0, .ref (adr 53)), (1, .int v1), (2, .int v2), (3, .int v3), (4, .int v4), (5, .int v5), (6, .int v6)] → W p l e ({ frames := 1, cells := 0, slots := 0, locals := 22 } : Room) s m args below meth c H locs 0 0 (MQ below (fQv D adr cs N post) args s 0 0 (faN adr N)) (F0 m 22 ls []) := by
  have hx := C.1.1
  have hb := C.1.2.1
  intro n
  induction n with
  | zero => intro v1 v2 v3 v4 v5 v6 t H locs ls h; exact False.elim h
  | succ n ih =>
    intro v1 v2 v3 v4 v5 v6 t H locs ls h hP hS hl
    unfold q_X5_multiply_22 at h
    refine lv_iload hx hb dX5_multiply_22 (lv_at hl 6 rfl) ?_
    refine lv_iload hx hb dX5_multiply_24 (lv_at hl 4 rfl) ?_
    refine lv_icmp_gt (tgt := 112) hx hb dX5_multiply_26 (by decide) (fun c9 => ?_) (fun c9 => ?_)
    · replace h := h.1 c9
      exact fr_vret C hP hS h dX5_multiply_112
    · replace h := h.2 c9
      refine lv_iconst (v := 0) hx hb dX5_multiply_29 (by decide) ?_
      refine lv_istore (lv' := [(7, .int 0), (0, .ref (adr 53)), (1, .int v1), (2, .int v2), (3, .int v3), (4, .int v4), (5, .int v5), (6, .int v6)]) hx hb dX5_multiply_30 hl (by decide) rfl (fun ls hl => ?_)
      obtain ⟨n9, h⟩ := h
      exact k_X5_multiply_32 hN C ih n9 v1 v2 v3 v4 v5 v6 0 t _ _ _ h hP hS (lv_sub hl [1, 2, 3, 4, 5, 6, 7, 0] rfl)

set_option maxHeartbeats 4000000 in
set_option maxRecDepth 100000 in
theorem c_X5_multiply (l : Launch) (D : va_G) (adr : Nat → Nat) (cs : Nat → ClassId) {N : Nat} (hN : 67 ≤ N) (t : fcS) (a0 : Int32) (a1 : Int32) (a2 : Int32) (post : fcS → Prop) (h : q_X5_multiply t a0 a1 a2 post) : Met l yX5_multiply wm_X5_multiply ({ frames := 1, cells := 0, slots := 0, locals := 22 } : Room) (fcPre D adr cs N t [.ref (adr 53), .int a0, .int a1, .int a2]) (fQv D adr cs N post) 0 0 (faN adr N) := by
  refine f_enter (cc := cX5_multiply) (nL := 8) (ret := none) (lv := [(0, .ref (adr 53)), (1, .int a0), (2, .int a1), (3, .int a2)]) (own := RX5) (by decide) rfl (Nat.le_of_ble_eq_true rfl) rfl rfl ?_
  intro p e s m below meth c ls C hP hS hl
  have hx := C.1.1
  have hb := C.1.2.1
  unfold q_X5_multiply at h
  refine lv_aload_n hx hb dX5_multiply_0 rfl (lv_at hl 0 rfl) ?_
  refine lv_iload_n hx hb dX5_multiply_1 rfl (lv_at hl 1 rfl) ?_
  refine fr_cv (fr_runV (n := 1) (rest := []) C (c_X5_clear l D adr cs hN t a0 _ h) hP hS (by omega) (fG_MO adr cs t) rfl (fgV mw_8_17 mw_8_18 mw_8_19 mw_1_5 mw_8_20) rfl rfl rfl (by decide +kernel) ⟨Nat.le_of_ble_eq_true rfl, Nat.le_of_ble_eq_true rfl⟩ rfl hl.1 rfl (Nat.le_of_ble_eq_true rfl) dX5_multiply_2) hS (fun t1 H locs h hP hS => ?_)
  refine lv_aload_n hx hb dX5_multiply_5 rfl (lv_at hl 0 rfl) ?_
  refine lv_iload_n hx hb dX5_multiply_6 rfl (lv_at hl 2 rfl) ?_
  refine fr_ci (fr_runV (n := 1) (rest := []) C (c_X5_degree l D adr cs hN t1 a1 _ h) hP hS (by omega) (fG_MO adr cs t1) rfl (fgV mw_9_1 mw_9_2 mw_9_3 mw_1_5 mw_9_4) rfl rfl rfl (by decide +kernel) ⟨Nat.le_of_ble_eq_true rfl, Nat.le_of_ble_eq_true rfl⟩ rfl hl.1 rfl (Nat.le_of_ble_eq_true rfl) dX5_multiply_7) hS (fun r3 t2 H locs h hP hS => ?_)
  refine lv_istore (lv' := [(4, .int r3), (0, .ref (adr 53)), (1, .int a0), (2, .int a1), (3, .int a2)]) hx hb dX5_multiply_10 hl (by decide) rfl (fun ls hl => ?_)
  refine lv_aload_n hx hb dX5_multiply_12 rfl (lv_at hl 1 rfl) ?_
  refine lv_iload_n hx hb dX5_multiply_13 rfl (lv_at hl 4 rfl) ?_
  refine fr_ci (fr_runV (n := 1) (rest := []) C (c_X5_degree l D adr cs hN t2 a2 _ h) hP hS (by omega) (fG_MO adr cs t2) rfl (fgV mw_9_1 mw_9_2 mw_9_3 mw_1_5 mw_9_4) rfl rfl rfl (by decide +kernel) ⟨Nat.le_of_ble_eq_true rfl, Nat.le_of_ble_eq_true rfl⟩ rfl hl.1 rfl (Nat.le_of_ble_eq_true rfl) dX5_multiply_14) hS (fun r5 t4 H locs h hP hS => ?_)
  refine lv_istore (lv' := [(5, .int r5), (4, .int r3), (0, .ref (adr 53)), (1, .int a0), (2, .int a1), (3, .int a2)]) hx hb dX5_multiply_17 hl (by decide) rfl (fun ls hl => ?_)
  refine lv_iconst (v := 0) hx hb dX5_multiply_19 (by decide) ?_
  refine lv_istore (lv' := [(6, .int 0), (5, .int r5), (4, .int r3), (0, .ref (adr 53)), (1, .int a0), (2, .int a1), (3, .int a2)]) hx hb dX5_multiply_20 hl (by decide) rfl (fun ls hl => ?_)
  obtain ⟨n9, h⟩ := h
  exact k_X5_multiply_22 hN C n9 a0 a1 a2 r3 r5 0 t4 _ _ _ h hP hS (lv_sub hl [3, 4, 5, 6, 2, 1, 0] rfl)

/-! X5.number -/
abbrev wm_X5_number : List Cond := Cond.code yX5_number cX5_number 4 (some .int) :: wsL_law
def q_X5_number_5 (post : Int32 → fcS → Prop) : Nat → Int32 → Int32 → Int32 → fcS → Prop
  | 0, _, _, _, _ => False
  | n + 1, v1, v2, v3, t => (v3 < 0 → (post v2 t)) ∧ (¬ v3 < 0 → ((vp_in (((16 * v1) + v3)) 640) ∧ (∀ x1 : Int32, x1 = (((fgi t 53 1) * v2) + (fga t 60 (Int32.toNatClampNeg (((16 * v1) + v3))))) → (∀ x2 : Int32, x2 = v3 + (-1) → (q_X5_number_5 post n v1 x1 x2 t)))))
def q_X5_number (t : fcS) (a0 : Int32) (post : Int32 → fcS → Prop) : Prop := ∃ n0, q_X5_number_5 post n0 a0 0 15 t
set_option maxHeartbeats 4000000 in
set_option maxRecDepth 100000 in
theorem k_X5_number_5 {D : va_G} {adr : Nat → Nat} {cs : Nat → ClassId} {N : Nat} (hN : 67 ≤ N) {p : Program} {l : Launch} {e : Env} {s : State} {m : MethodId} {args : Array Value} {below : List Frame} {meth : Method} {c : Code} (C : fCx D adr cs N p s m args meth c cX5_number 4 (some .int) RX5 wm_X5_number) {post : Int32 → fcS → Prop} : ∀ (n : Nat) (v1 : Int32) (v2 : Int32) (v3 : Int32) (t : fcS) (H : Heap) (locs : List Loc) (ls : Array Slot), q_X5_number_5 post n v1 v2 v3 t → va_P D vwCl (fwl adr N (fG adr cs t)) H → va_S (faN adr N) s.heap H locs → lv_has ls 4 [(0, .ref (adr 53)), (1, .int v1), (2, .int v2), (3, .int v3)] → W p l e ({ frames := 0, cells := 0, slots := 0, locals := 0 } : Room) s m args below meth c H locs 0 0 (MQ below (fQi D adr cs N post) args s 0 0 (faN adr N)) (F0 m 5 ls []) := by
  have hx := C.1.1
  have hb := C.1.2.1
  intro n
  induction n with
  | zero => intro v1 v2 v3 t H locs ls h; exact False.elim h
  | succ n ih =>
    intro v1 v2 v3 t H locs ls h hP hS hl
    unfold q_X5_number_5 at h
    refine lv_iload_n hx hb dX5_number_5 rfl (lv_at hl 3 rfl) ?_
    refine lv_if_lt (tgt := 34) hx hb dX5_number_6 (by decide) (fun c9 => ?_) (fun c9 => ?_)
    · replace h := h.1 c9
      refine lv_iload_n hx hb dX5_number_34 rfl (lv_at hl 2 rfl) ?_
      exact fr_iret C hP hS h dX5_number_35
    · replace h := h.2 c9
      refine lv_aload_n hx hb dX5_number_9 rfl (lv_at hl 0 rfl) ?_
      refine fr_get (j := 1) C hP (by omega) (fG_MO adr cs t) rfl (fun w h => List.mem_cons_of_mem _ (inl_X5 w h)) (by decide) rfl (List.mem_cons_of_mem _ mw_7_5) rfl dX5_number_10 ?_
      refine lv_iload_n hx hb dX5_number_13 rfl (lv_at hl 2 rfl) ?_
      refine lv_imul hx hb dX5_number_14 ?_
      refine lv_aload_n hx hb dX5_number_15 rfl (lv_at hl 0 rfl) ?_
      refine fr_get (j := 13) C hP (by omega) (fG_MO adr cs t) rfl (fun w h => List.mem_cons_of_mem _ (inl_X5 w h)) (by decide) rfl (List.mem_cons_of_mem _ mw_7_14) rfl dX5_number_16 ?_
      refine lv_bipush (v := 16) hx hb dX5_number_19 (by decide) ?_
      refine lv_iload_n hx hb dX5_number_21 rfl (lv_at hl 1 rfl) ?_
      refine lv_imul hx hb dX5_number_22 ?_
      refine lv_iload_n hx hb dX5_number_23 rfl (lv_at hl 3 rfl) ?_
      refine lv_iadd hx hb dX5_number_24 ?_
      refine fr_iald C hP (by omega) (fG_60 adr cs t) h.1 dX5_number_25 ?_
      replace h := h.2
      refine lv_iadd hx hb dX5_number_26 ?_
      refine lv_topi (fun x1 ex1 => ?_)
      replace h := h x1 ex1
      refine lv_istore_n (lv' := [(2, .int x1), (0, .ref (adr 53)), (1, .int v1), (3, .int v3)]) hx hb dX5_number_27 rfl hl (by decide) rfl (fun ls hl => ?_)
      obtain ⟨x2, ex2⟩ : ∃ y : Int32, y = v3 + (-1) := ⟨_, rfl⟩
      replace h := h x2 ex2
      refine lv_iinc (v := x2) (lv' := [(3, .int x2), (2, .int x1), (0, .ref (adr 53)), (1, .int v1)]) hx hb dX5_number_28 hl (k := 3) rfl (by rw [ex2]; rfl) (by decide) rfl (fun ls hl => ?_)
      refine lv_goto (tgt := 5) hx hb dX5_number_31 (by decide) ?_
      exact ih v1 x1 x2 t _ _ _ h hP hS (lv_sub hl [2, 3, 1, 0] rfl)

set_option maxHeartbeats 4000000 in
set_option maxRecDepth 100000 in
theorem c_X5_number (l : Launch) (D : va_G) (adr : Nat → Nat) (cs : Nat → ClassId) {N : Nat} (hN : 67 ≤ N) (t : fcS) (a0 : Int32) (post : Int32 → fcS → Prop) (h : q_X5_number t a0 post) : Met l yX5_number wm_X5_number ({ frames := 0, cells := 0, slots := 0, locals := 0 } : Room) (fcPre D adr cs N t [.ref (adr 53), .int a0]) (fQi D adr cs N post) 0 0 (faN adr N) := by
  refine f_enter (cc := cX5_number) (nL := 4) (ret := some .int) (lv := [(0, .ref (adr 53)), (1, .int a0)]) (own := RX5) (by decide) rfl (Nat.le_of_ble_eq_true rfl) rfl rfl ?_
  intro p e s m below meth c ls C hP hS hl
  have hx := C.1.1
  have hb := C.1.2.1
  unfold q_X5_number at h
  refine lv_iconst (v := 0) hx hb dX5_number_0 (by decide) ?_
  refine lv_istore_n (lv' := [(2, .int 0), (0, .ref (adr 53)), (1, .int a0)]) hx hb dX5_number_1 rfl hl (by decide) rfl (fun ls hl => ?_)
  refine lv_bipush (v := 15) hx hb dX5_number_2 (by decide) ?_
  refine lv_istore_n (lv' := [(3, .int 15), (2, .int 0), (0, .ref (adr 53)), (1, .int a0)]) hx hb dX5_number_4 rfl hl (by decide) rfl (fun ls hl => ?_)
  obtain ⟨n9, h⟩ := h
  exact k_X5_number_5 hN C n9 a0 0 15 t _ _ _ h hP hS (lv_sub hl [2, 3, 1, 0] rfl)

/-! X5.product -/
abbrev wm_X5_product : List Cond := Cond.code yX5_product cX5_product 4 (some .int) :: wsL_law
def q_X5_product (t : fcS) (a0 : Int32) (a1 : Int32) (a2 : Int32) (post : Int32 → fcS → Prop) : Prop := (¬ a0 = 1 → (q_X5_load t 0 a1 (fun (t1 : fcS) => q_X5_load t1 1 a2 (fun (t2 : fcS) => q_X5_multiply t2 2 0 1 (fun (t3 : fcS) => (vp_in a0 6) ∧ (q_X5_load t3 3 ((fga t3 55 (Int32.toNatClampNeg a0))) (fun (t4 : fcS) => q_X5_divide t4 4 5 2 3 (fun (t5 : fcS) => q_X5_number t5 5 (fun (r7 : Int32) (t6 : fcS) => post r7 t6))))))))) ∧ (a0 = 1 → ((¬ ((fgi t 53 1) : Int32) = 0) ∧ (post ((irm ((a1 * a2)) ((fgi t 53 1)))) t)))
set_option maxHeartbeats 4000000 in
set_option maxRecDepth 100000 in
theorem c_X5_product (l : Launch) (D : va_G) (adr : Nat → Nat) (cs : Nat → ClassId) {N : Nat} (hN : 67 ≤ N) (t : fcS) (a0 : Int32) (a1 : Int32) (a2 : Int32) (post : Int32 → fcS → Prop) (h : q_X5_product t a0 a1 a2 post) : Met l yX5_product wm_X5_product ({ frames := 2, cells := 0, slots := 0, locals := 52 } : Room) (fcPre D adr cs N t [.ref (adr 53), .int a0, .int a1, .int a2]) (fQi D adr cs N post) 0 0 (faN adr N) := by
  refine f_enter (cc := cX5_product) (nL := 4) (ret := some .int) (lv := [(0, .ref (adr 53)), (1, .int a0), (2, .int a1), (3, .int a2)]) (own := RX5) (by decide) rfl (Nat.le_of_ble_eq_true rfl) rfl rfl ?_
  intro p e s m below meth c ls C hP hS hl
  have hx := C.1.1
  have hb := C.1.2.1
  unfold q_X5_product at h
  refine lv_iload_n hx hb dX5_product_0 rfl (lv_at hl 1 rfl) ?_
  refine lv_iconst (v := 1) hx hb dX5_product_1 (by decide) ?_
  refine lv_icmp_ne (tgt := 14) hx hb dX5_product_2 (by decide) (fun c9 => ?_) (fun c9 => ?_)
  · replace h := h.1 c9
    refine lv_aload_n hx hb dX5_product_14 rfl (lv_at hl 0 rfl) ?_
    refine lv_iconst (v := 0) hx hb dX5_product_15 (by decide) ?_
    refine lv_iload_n hx hb dX5_product_16 rfl (lv_at hl 2 rfl) ?_
    refine fr_cv (fr_runV (n := 2) (rest := []) C (c_X5_load l D adr cs hN t 0 a1 _ h) hP hS (by omega) (fG_MO adr cs t) rfl (fgV mw_8_9 mw_8_10 mw_8_11 mw_1_5 mw_8_12) rfl rfl rfl (by decide +kernel) ⟨Nat.le_of_ble_eq_true rfl, Nat.le_of_ble_eq_true rfl⟩ rfl hl.1 rfl (Nat.le_of_ble_eq_true rfl) dX5_product_17) hS (fun t1 H locs h hP hS => ?_)
    refine lv_aload_n hx hb dX5_product_20 rfl (lv_at hl 0 rfl) ?_
    refine lv_iconst (v := 1) hx hb dX5_product_21 (by decide) ?_
    refine lv_iload_n hx hb dX5_product_22 rfl (lv_at hl 3 rfl) ?_
    refine fr_cv (fr_runV (n := 2) (rest := []) C (c_X5_load l D adr cs hN t1 1 a2 _ h) hP hS (by omega) (fG_MO adr cs t1) rfl (fgV mw_8_9 mw_8_10 mw_8_11 mw_1_5 mw_8_12) rfl rfl rfl (by decide +kernel) ⟨Nat.le_of_ble_eq_true rfl, Nat.le_of_ble_eq_true rfl⟩ rfl hl.1 rfl (Nat.le_of_ble_eq_true rfl) dX5_product_23) hS (fun t2 H locs h hP hS => ?_)
    refine lv_aload_n hx hb dX5_product_26 rfl (lv_at hl 0 rfl) ?_
    refine lv_iconst (v := 2) hx hb dX5_product_27 (by decide) ?_
    refine lv_iconst (v := 0) hx hb dX5_product_28 (by decide) ?_
    refine lv_iconst (v := 1) hx hb dX5_product_29 (by decide) ?_
    refine fr_cv (fr_runV (n := 3) (rest := []) C (c_X5_multiply l D adr cs hN t2 2 0 1 _ h) hP hS (by omega) (fG_MO adr cs t2) rfl (fgV mw_9_21 mw_9_22 mw_9_23 mw_1_5 mw_10_0) rfl rfl rfl (by decide +kernel) ⟨Nat.le_of_ble_eq_true rfl, Nat.le_of_ble_eq_true rfl⟩ rfl hl.1 rfl (Nat.le_of_ble_eq_true rfl) dX5_product_30) hS (fun t3 H locs h hP hS => ?_)
    refine lv_aload_n hx hb dX5_product_33 rfl (lv_at hl 0 rfl) ?_
    refine lv_iconst (v := 3) hx hb dX5_product_34 (by decide) ?_
    refine lv_aload_n hx hb dX5_product_35 rfl (lv_at hl 0 rfl) ?_
    refine fr_get (j := 4) C hP (by omega) (fG_MO adr cs t3) rfl (fun w h => List.mem_cons_of_mem _ (inl_X5 w h)) (by decide) rfl (List.mem_cons_of_mem _ mw_7_8) rfl dX5_product_36 ?_
    refine lv_iload_n hx hb dX5_product_39 rfl (lv_at hl 1 rfl) ?_
    refine fr_iald C hP (by omega) (fG_55 adr cs t3) h.1 dX5_product_40 ?_
    replace h := h.2
    refine fr_cv (fr_runV (n := 2) (rest := []) C (c_X5_load l D adr cs hN t3 3 ((fga t3 55 (Int32.toNatClampNeg a0))) _ h) hP hS (by omega) (fG_MO adr cs t3) rfl (fgV mw_8_9 mw_8_10 mw_8_11 mw_1_5 mw_8_12) rfl rfl rfl (by decide +kernel) ⟨Nat.le_of_ble_eq_true rfl, Nat.le_of_ble_eq_true rfl⟩ rfl hl.1 rfl (Nat.le_of_ble_eq_true rfl) dX5_product_41) hS (fun t4 H locs h hP hS => ?_)
    refine lv_aload_n hx hb dX5_product_44 rfl (lv_at hl 0 rfl) ?_
    refine lv_iconst (v := 4) hx hb dX5_product_45 (by decide) ?_
    refine lv_iconst (v := 5) hx hb dX5_product_46 (by decide) ?_
    refine lv_iconst (v := 2) hx hb dX5_product_47 (by decide) ?_
    refine lv_iconst (v := 3) hx hb dX5_product_48 (by decide) ?_
    refine fr_cv (fr_runV (n := 4) (rest := []) C (c_X5_divide l D adr cs hN t4 4 5 2 3 _ h) hP hS (by omega) (fG_MO adr cs t4) rfl (fgV mw_8_13 mw_8_14 mw_8_15 mw_1_5 mw_8_16) rfl rfl rfl (by decide +kernel) ⟨Nat.le_of_ble_eq_true rfl, Nat.le_of_ble_eq_true rfl⟩ rfl hl.1 rfl (Nat.le_of_ble_eq_true rfl) dX5_product_49) hS (fun t5 H locs h hP hS => ?_)
    refine lv_aload_n hx hb dX5_product_52 rfl (lv_at hl 0 rfl) ?_
    refine lv_iconst (v := 5) hx hb dX5_product_53 (by decide) ?_
    refine fr_ci (fr_runV (n := 1) (rest := []) C (c_X5_number l D adr cs hN t5 5 _ h) hP hS (by omega) (fG_MO adr cs t5) rfl (fgV mw_10_1 mw_10_2 mw_10_3 mw_1_5 mw_10_4) rfl rfl rfl (by decide +kernel) ⟨Nat.le_of_ble_eq_true rfl, Nat.le_of_ble_eq_true rfl⟩ rfl hl.1 rfl (Nat.le_of_ble_eq_true rfl) dX5_product_54) hS (fun r7 t6 H locs h hP hS => ?_)
    exact fr_iret C hP hS h dX5_product_57
  · replace h := h.2 c9
    refine lv_iload_n hx hb dX5_product_5 rfl (lv_at hl 2 rfl) ?_
    refine lv_iload_n hx hb dX5_product_6 rfl (lv_at hl 3 rfl) ?_
    refine lv_imul hx hb dX5_product_7 ?_
    refine lv_aload_n hx hb dX5_product_8 rfl (lv_at hl 0 rfl) ?_
    refine fr_get (j := 1) C hP (by omega) (fG_MO adr cs t) rfl (fun w h => List.mem_cons_of_mem _ (inl_X5 w h)) (by decide) rfl (List.mem_cons_of_mem _ mw_7_5) rfl dX5_product_9 ?_
    refine lv_irem hx hb dX5_product_12 h.1 ?_
    replace h := h.2
    exact fr_iret C hP hS h dX5_product_13

/-! X5.needSigns -/
abbrev wm_X5_needSigns : List Cond := Cond.code yX5_needSigns cX5_needSigns 3 none :: wsL_law
def q_X5_needSigns_41 (post : fcS → Prop) : Nat → Int32 → Int32 → fcS → Prop
  | 0, _, _, _ => False
  | n + 1, v1, v2, t => (vp_in v1 6) ∧ (((fga t 54 (Int32.toNatClampNeg v1)) ≤ v2 → ((vp_in 0 344) ∧ (∀ t2 : fcS, t2 = fsa t 61 (Int32.toNatClampNeg 0) 0 → (post t2)))) ∧ (¬ (fga t 54 (Int32.toNatClampNeg v1)) ≤ v2 → (q_X5_product t v1 v2 v2 (fun (r4 : Int32) (t3 : fcS) => (vp_in r4 344) ∧ (∀ t5 : fcS, t5 = fsa t3 61 (Int32.toNatClampNeg r4) 1 → (∀ x6 : Int32, x6 = v2 + 1 → (q_X5_needSigns_41 post n v1 x6 t5)))))))
def q_X5_needSigns_16 (post : fcS → Prop) : Nat → Int32 → Int32 → fcS → Prop
  | 0, _, _, _ => False
  | n + 1, v1, v2, t => (vp_in v1 6) ∧ (((fga t 54 (Int32.toNatClampNeg v1)) ≤ v2 → (∃ n0, q_X5_needSigns_41 post n0 v1 1 t)) ∧ (¬ (fga t 54 (Int32.toNatClampNeg v1)) ≤ v2 → ((vp_in v2 344) ∧ (∀ t7 : fcS, t7 = fsa t 61 (Int32.toNatClampNeg v2) ((-1)) → (∀ x8 : Int32, x8 = v2 + 1 → (q_X5_needSigns_16 post n v1 x8 t7))))))
def q_X5_needSigns (t : fcS) (a0 : Int32) (post : fcS → Prop) : Prop := (¬ (fgi t 53 15) = a0 → (∀ t1 : fcS, t1 = fsi t 53 15 a0 → (∃ n0, q_X5_needSigns_16 post n0 a0 0 t1))) ∧ ((fgi t 53 15) = a0 → (post t))
set_option maxHeartbeats 4000000 in
set_option maxRecDepth 100000 in
theorem k_X5_needSigns_41 {D : va_G} {adr : Nat → Nat} {cs : Nat → ClassId} {N : Nat} (hN : 67 ≤ N) {p : Program} {l : Launch} {e : Env} {s : State} {m : MethodId} {args : Array Value} {below : List Frame} {meth : Method} {c : Code} (C : fCx D adr cs N p s m args meth c cX5_needSigns 3 (none) RX5 wm_X5_needSigns) {post : fcS → Prop} : ∀ (n : Nat) (v1 : Int32) (v2 : Int32) (t : fcS) (H : Heap) (locs : List Loc) (ls : Array Slot), q_X5_needSigns_41 post n v1 v2 t → va_P D vwCl (fwl adr N (fG adr cs t)) H → va_S (faN adr N) s.heap H locs → lv_has ls 3 [(0, .ref (adr 53)), (1, .int v1), (2, .int v2)] → W p l e ({ frames := 3, cells := 0, slots := 0, locals := 75 } : Room) s m args below meth c H locs 0 0 (MQ below (fQv D adr cs N post) args s 0 0 (faN adr N)) (F0 m 41 ls []) := by
  have hx := C.1.1
  have hb := C.1.2.1
  intro n
  induction n with
  | zero => intro v1 v2 t H locs ls h; exact False.elim h
  | succ n ih =>
    intro v1 v2 t H locs ls h hP hS hl
    unfold q_X5_needSigns_41 at h
    refine lv_iload_n hx hb dX5_needSigns_41 rfl (lv_at hl 2 rfl) ?_
    refine lv_aload_n hx hb dX5_needSigns_42 rfl (lv_at hl 0 rfl) ?_
    refine fr_get (j := 3) C hP (by omega) (fG_MO adr cs t) rfl (fun w h => List.mem_cons_of_mem _ (inl_X5 w h)) (by decide) rfl (List.mem_cons_of_mem _ mw_7_7) rfl dX5_needSigns_43 ?_
    refine lv_iload_n hx hb dX5_needSigns_46 rfl (lv_at hl 1 rfl) ?_
    refine fr_iald C hP (by omega) (fG_54 adr cs t) h.1 dX5_needSigns_47 ?_
    replace h := h.2
    refine lv_icmp_ge (tgt := 70) hx hb dX5_needSigns_48 (by decide) (fun c9 => ?_) (fun c9 => ?_)
    · replace h := h.1 c9
      refine lv_aload_n hx hb dX5_needSigns_70 rfl (lv_at hl 0 rfl) ?_
      refine fr_get (j := 14) C hP (by omega) (fG_MO adr cs t) rfl (fun w h => List.mem_cons_of_mem _ (inl_X5 w h)) (by decide) rfl (List.mem_cons_of_mem _ mw_7_15) rfl dX5_needSigns_71 ?_
      refine lv_iconst (v := 0) hx hb dX5_needSigns_74 (by decide) ?_
      refine lv_iconst (v := 0) hx hb dX5_needSigns_75 (by decide) ?_
      refine fr_iast C hP hS (by omega) (fun u => (fG_61 adr cs u)) h.1 dX5_needSigns_76 (fun H locs hP hS => ?_)
      obtain ⟨t2, et2⟩ : ∃ y : fcS, y = fsa t 61 (Int32.toNatClampNeg 0) 0 := ⟨_, rfl⟩
      rw [← et2] at hP
      replace h := h.2 t2 et2
      exact fr_vret C hP hS h dX5_needSigns_77
    · replace h := h.2 c9
      refine lv_aload_n hx hb dX5_needSigns_51 rfl (lv_at hl 0 rfl) ?_
      refine fr_get (j := 14) C hP (by omega) (fG_MO adr cs t) rfl (fun w h => List.mem_cons_of_mem _ (inl_X5 w h)) (by decide) rfl (List.mem_cons_of_mem _ mw_7_15) rfl dX5_needSigns_52 ?_
      refine lv_aload_n hx hb dX5_needSigns_55 rfl (lv_at hl 0 rfl) ?_
      refine lv_iload_n hx hb dX5_needSigns_56 rfl (lv_at hl 1 rfl) ?_
      refine lv_iload_n hx hb dX5_needSigns_57 rfl (lv_at hl 2 rfl) ?_
      refine lv_iload_n hx hb dX5_needSigns_58 rfl (lv_at hl 2 rfl) ?_
      refine fr_ci (fr_runV (n := 3) (rest := [.ref (adr 61)]) C (c_X5_product l D adr cs hN t v1 v2 v2 _ h) hP hS (by omega) (fG_MO adr cs t) rfl (fgV mw_9_17 mw_9_18 mw_9_19 mw_1_5 mw_9_20) rfl rfl rfl (by decide +kernel) ⟨Nat.le_of_ble_eq_true rfl, Nat.le_of_ble_eq_true rfl⟩ rfl hl.1 rfl (Nat.le_of_ble_eq_true rfl) dX5_needSigns_59) hS (fun r4 t3 H locs h hP hS => ?_)
      refine lv_iconst (v := 1) hx hb dX5_needSigns_62 (by decide) ?_
      refine fr_iast C hP hS (by omega) (fun u => (fG_61 adr cs u)) h.1 dX5_needSigns_63 (fun H locs hP hS => ?_)
      obtain ⟨t5, et5⟩ : ∃ y : fcS, y = fsa t3 61 (Int32.toNatClampNeg r4) 1 := ⟨_, rfl⟩
      rw [← et5] at hP
      replace h := h.2 t5 et5
      obtain ⟨x6, ex6⟩ : ∃ y : Int32, y = v2 + 1 := ⟨_, rfl⟩
      replace h := h x6 ex6
      refine lv_iinc (v := x6) (lv' := [(2, .int x6), (0, .ref (adr 53)), (1, .int v1)]) hx hb dX5_needSigns_64 hl (k := 2) rfl (by rw [ex6]; rfl) (by decide) rfl (fun ls hl => ?_)
      refine lv_goto (tgt := 41) hx hb dX5_needSigns_67 (by decide) ?_
      exact ih v1 x6 t5 _ _ _ h hP hS (lv_sub hl [1, 2, 0] rfl)

set_option maxHeartbeats 4000000 in
set_option maxRecDepth 100000 in
theorem k_X5_needSigns_16 {D : va_G} {adr : Nat → Nat} {cs : Nat → ClassId} {N : Nat} (hN : 67 ≤ N) {p : Program} {l : Launch} {e : Env} {s : State} {m : MethodId} {args : Array Value} {below : List Frame} {meth : Method} {c : Code} (C : fCx D adr cs N p s m args meth c cX5_needSigns 3 (none) RX5 wm_X5_needSigns) {post : fcS → Prop} : ∀ (n : Nat) (v1 : Int32) (v2 : Int32) (t : fcS) (H : Heap) (locs : List Loc) (ls : Array Slot), q_X5_needSigns_16 post n v1 v2 t → va_P D vwCl (fwl adr N (fG adr cs t)) H → va_S (faN adr N) s.heap H locs → lv_has ls 3 [(0, .ref (adr 53)), (1, .int v1), (2, .int v2)] → W p l e ({ frames := 3, cells := 0, slots := 0, locals := 75 } : Room) s m args below meth c H locs 0 0 (MQ below (fQv D adr cs N post) args s 0 0 (faN adr N)) (F0 m 16 ls []) := by
  have hx := C.1.1
  have hb := C.1.2.1
  intro n
  induction n with
  | zero => intro v1 v2 t H locs ls h; exact False.elim h
  | succ n ih =>
    intro v1 v2 t H locs ls h hP hS hl
    unfold q_X5_needSigns_16 at h
    refine lv_iload_n hx hb dX5_needSigns_16 rfl (lv_at hl 2 rfl) ?_
    refine lv_aload_n hx hb dX5_needSigns_17 rfl (lv_at hl 0 rfl) ?_
    refine fr_get (j := 3) C hP (by omega) (fG_MO adr cs t) rfl (fun w h => List.mem_cons_of_mem _ (inl_X5 w h)) (by decide) rfl (List.mem_cons_of_mem _ mw_7_7) rfl dX5_needSigns_18 ?_
    refine lv_iload_n hx hb dX5_needSigns_21 rfl (lv_at hl 1 rfl) ?_
    refine fr_iald C hP (by omega) (fG_54 adr cs t) h.1 dX5_needSigns_22 ?_
    replace h := h.2
    refine lv_icmp_ge (tgt := 39) hx hb dX5_needSigns_23 (by decide) (fun c9 => ?_) (fun c9 => ?_)
    · replace h := h.1 c9
      refine lv_iconst (v := 1) hx hb dX5_needSigns_39 (by decide) ?_
      refine lv_istore_n (lv' := [(2, .int 1), (0, .ref (adr 53)), (1, .int v1)]) hx hb dX5_needSigns_40 rfl hl (by decide) rfl (fun ls hl => ?_)
      obtain ⟨n9, h⟩ := h
      exact k_X5_needSigns_41 hN C n9 v1 1 t _ _ _ h hP hS (lv_sub hl [1, 2, 0] rfl)
    · replace h := h.2 c9
      refine lv_aload_n hx hb dX5_needSigns_26 rfl (lv_at hl 0 rfl) ?_
      refine fr_get (j := 14) C hP (by omega) (fG_MO adr cs t) rfl (fun w h => List.mem_cons_of_mem _ (inl_X5 w h)) (by decide) rfl (List.mem_cons_of_mem _ mw_7_15) rfl dX5_needSigns_27 ?_
      refine lv_iload_n hx hb dX5_needSigns_30 rfl (lv_at hl 2 rfl) ?_
      refine lv_iconst (v := (-1)) hx hb dX5_needSigns_31 (by decide) ?_
      refine fr_iast C hP hS (by omega) (fun u => (fG_61 adr cs u)) h.1 dX5_needSigns_32 (fun H locs hP hS => ?_)
      obtain ⟨t7, et7⟩ : ∃ y : fcS, y = fsa t 61 (Int32.toNatClampNeg v2) ((-1)) := ⟨_, rfl⟩
      rw [← et7] at hP
      replace h := h.2 t7 et7
      obtain ⟨x8, ex8⟩ : ∃ y : Int32, y = v2 + 1 := ⟨_, rfl⟩
      replace h := h x8 ex8
      refine lv_iinc (v := x8) (lv' := [(2, .int x8), (0, .ref (adr 53)), (1, .int v1)]) hx hb dX5_needSigns_33 hl (k := 2) rfl (by rw [ex8]; rfl) (by decide) rfl (fun ls hl => ?_)
      refine lv_goto (tgt := 16) hx hb dX5_needSigns_36 (by decide) ?_
      exact ih v1 x8 t7 _ _ _ h hP hS (lv_sub hl [1, 2, 0] rfl)

set_option maxHeartbeats 4000000 in
set_option maxRecDepth 100000 in
theorem c_X5_needSigns (l : Launch) (D : va_G) (adr : Nat → Nat) (cs : Nat → ClassId) {N : Nat} (hN : 67 ≤ N) (t : fcS) (a0 : Int32) (post : fcS → Prop) (h : q_X5_needSigns t a0 post) : Met l yX5_needSigns wm_X5_needSigns ({ frames := 3, cells := 0, slots := 0, locals := 75 } : Room) (fcPre D adr cs N t [.ref (adr 53), .int a0]) (fQv D adr cs N post) 0 0 (faN adr N) := by
  refine f_enter (cc := cX5_needSigns) (nL := 3) (ret := none) (lv := [(0, .ref (adr 53)), (1, .int a0)]) (own := RX5) (by decide) rfl (Nat.le_of_ble_eq_true rfl) rfl rfl ?_
  intro p e s m below meth c ls C hP hS hl
  have hx := C.1.1
  have hb := C.1.2.1
  unfold q_X5_needSigns at h
  refine lv_aload_n hx hb dX5_needSigns_0 rfl (lv_at hl 0 rfl) ?_
  refine fr_get (j := 15) C hP (by omega) (fG_MO adr cs t) rfl (fun w h => List.mem_cons_of_mem _ (inl_X5 w h)) (by decide) rfl (List.mem_cons_of_mem _ mw_8_3) rfl dX5_needSigns_1 ?_
  refine lv_iload_n hx hb dX5_needSigns_4 rfl (lv_at hl 1 rfl) ?_
  refine lv_icmp_ne (tgt := 9) hx hb dX5_needSigns_5 (by decide) (fun c9 => ?_) (fun c9 => ?_)
  · replace h := h.1 c9
    refine lv_aload_n hx hb dX5_needSigns_9 rfl (lv_at hl 0 rfl) ?_
    refine lv_iload_n hx hb dX5_needSigns_10 rfl (lv_at hl 1 rfl) ?_
    refine fr_put C (fsi t 53 15 a0) (j := 15) (ty := .int) hP hS (by omega) (fG_MO adr cs t) rfl (fun w h => List.mem_cons_of_mem _ (inl_X5 w h)) tyX5_ok nmX5 (by decide) rfl (List.mem_cons_of_mem _ mw_8_3) rfl (by decide +kernel) rfl rfl (Nat.le_of_ble_eq_true rfl) (fS_MO_15 adr cs t a0) (fG_fsi_ne adr cs t 53 15 a0) dX5_needSigns_11 (fun H locs hP hS => ?_)
    obtain ⟨t1, et1⟩ : ∃ y : fcS, y = fsi t 53 15 a0 := ⟨_, rfl⟩
    rw [← et1] at hP
    replace h := h t1 et1
    refine lv_iconst (v := 0) hx hb dX5_needSigns_14 (by decide) ?_
    refine lv_istore_n (lv' := [(2, .int 0), (0, .ref (adr 53)), (1, .int a0)]) hx hb dX5_needSigns_15 rfl hl (by decide) rfl (fun ls hl => ?_)
    obtain ⟨n9, h⟩ := h
    exact k_X5_needSigns_16 hN C n9 a0 0 t1 _ _ _ h hP hS (lv_sub hl [1, 2, 0] rfl)
  · replace h := h.2 c9
    exact fr_vret C hP hS h dX5_needSigns_8

/-! X5.begins -/
abbrev wm_X5_begins : List Cond := Cond.code yX5_begins cX5_begins 3 none :: wsL_law
def q_X5_begins_96 (post : fcS → Prop) : Nat → fcS → Prop
  | 0, _ => False
  | n + 1, t => (vp_in ((fgi t 53 5)) 344) ∧ (((fga t 61 (Int32.toNatClampNeg ((fgi t 53 5)))) < 0 → (post t)) ∧ (¬ (fga t 61 (Int32.toNatClampNeg ((fgi t 53 5)))) < 0 → (∀ t9 : fcS, t9 = fsi t 53 5 (((fgi t 53 5) + 1)) → (q_X5_begins_96 post n t9))))
def q_X5_begins_15 (post : fcS → Prop) : Nat → Int32 → fcS → Prop
  | 0, _, _ => False
  | n + 1, v2, t => (343 < v2 → (∀ t4 : fcS, t4 = fsi t 53 6 0 → (∀ t5 : fcS, t5 = fsi t4 53 16 ((-9)) → (∀ t6 : fcS, t6 = fsi t5 53 15 0 → (q_X5_needSigns t6 1 (fun (t7 : fcS) => ∀ t8 : fcS, t8 = fsi t7 53 5 0 → (∃ n0, q_X5_begins_96 post n0 t8))))))) ∧ (¬ 343 < v2 → (∀ t10 : fcS, t10 = fsi t 53 2 (((fgi t 53 2) + 1)) → ((vp_in ((fgi t10 53 2)) 6) ∧ (∀ t11 : fcS, t11 = fsa t10 54 (Int32.toNatClampNeg ((fgi t10 53 2))) v2 → (q_X5_least t11 ((fgi t11 53 2)) v2 (fun (r13 : Int32) (t12 : fcS) => (vp_in ((fgi t11 53 2)) 6) ∧ (∀ t14 : fcS, t14 = fsa t12 55 (Int32.toNatClampNeg ((fgi t11 53 2))) r13 → (∀ x15 : Int32, x15 = (v2 * (fgi t14 53 1)) → (q_X5_begins_15 post n x15 t14)))))))))
def q_X5_begins (t : fcS) (a0 : Int32) (post : fcS → Prop) : Prop := ∀ t1 : fcS, t1 = fsi t 53 1 a0 → (∀ t2 : fcS, t2 = fsi t1 53 2 0 → (∀ x3 : Int32, x3 = (fgi t2 53 1) → (∃ n0, q_X5_begins_15 post n0 x3 t2)))
set_option maxHeartbeats 4000000 in
set_option maxRecDepth 100000 in
theorem k_X5_begins_96 {D : va_G} {adr : Nat → Nat} {cs : Nat → ClassId} {N : Nat} (hN : 67 ≤ N) {p : Program} {l : Launch} {e : Env} {s : State} {m : MethodId} {args : Array Value} {below : List Frame} {meth : Method} {c : Code} (C : fCx D adr cs N p s m args meth c cX5_begins 3 (none) RX5 wm_X5_begins) {post : fcS → Prop} : ∀ (n : Nat) (t : fcS) (H : Heap) (locs : List Loc) (ls : Array Slot), q_X5_begins_96 post n t → va_P D vwCl (fwl adr N (fG adr cs t)) H → va_S (faN adr N) s.heap H locs → lv_has ls 3 [(0, .ref (adr 53))] → W p l e ({ frames := 4, cells := 0, slots := 0, locals := 97 } : Room) s m args below meth c H locs 0 0 (MQ below (fQv D adr cs N post) args s 0 0 (faN adr N)) (F0 m 96 ls []) := by
  have hx := C.1.1
  have hb := C.1.2.1
  intro n
  induction n with
  | zero => intro t H locs ls h; exact False.elim h
  | succ n ih =>
    intro t H locs ls h hP hS hl
    unfold q_X5_begins_96 at h
    refine lv_aload_n hx hb dX5_begins_96 rfl (lv_at hl 0 rfl) ?_
    refine fr_get (j := 14) C hP (by omega) (fG_MO adr cs t) rfl (fun w h => List.mem_cons_of_mem _ (inl_X5 w h)) (by decide) rfl (List.mem_cons_of_mem _ mw_7_15) rfl dX5_begins_97 ?_
    refine lv_aload_n hx hb dX5_begins_100 rfl (lv_at hl 0 rfl) ?_
    refine fr_get (j := 5) C hP (by omega) (fG_MO adr cs t) rfl (fun w h => List.mem_cons_of_mem _ (inl_X5 w h)) (by decide) rfl (List.mem_cons_of_mem _ mw_8_4) rfl dX5_begins_101 ?_
    refine fr_iald C hP (by omega) (fG_61 adr cs t) h.1 dX5_begins_104 ?_
    replace h := h.2
    refine lv_if_lt (tgt := 121) hx hb dX5_begins_105 (by decide) (fun c9 => ?_) (fun c9 => ?_)
    · replace h := h.1 c9
      exact fr_vret C hP hS h dX5_begins_121
    · replace h := h.2 c9
      refine lv_aload_n hx hb dX5_begins_108 rfl (lv_at hl 0 rfl) ?_
      refine lv_dup hx hb dX5_begins_109 rfl ?_
      refine fr_get (j := 5) C hP (by omega) (fG_MO adr cs t) rfl (fun w h => List.mem_cons_of_mem _ (inl_X5 w h)) (by decide) rfl (List.mem_cons_of_mem _ mw_8_4) rfl dX5_begins_110 ?_
      refine lv_iconst (v := 1) hx hb dX5_begins_113 (by decide) ?_
      refine lv_iadd hx hb dX5_begins_114 ?_
      refine fr_put C (fsi t 53 5 (((fgi t 53 5) + 1))) (j := 5) (ty := .int) hP hS (by omega) (fG_MO adr cs t) rfl (fun w h => List.mem_cons_of_mem _ (inl_X5 w h)) tyX5_ok nmX5 (by decide) rfl (List.mem_cons_of_mem _ mw_8_4) rfl (by decide +kernel) rfl rfl (Nat.le_of_ble_eq_true rfl) (fS_MO_5 adr cs t (((fgi t 53 5) + 1))) (fG_fsi_ne adr cs t 53 5 (((fgi t 53 5) + 1))) dX5_begins_115 (fun H locs hP hS => ?_)
      obtain ⟨t9, et9⟩ : ∃ y : fcS, y = fsi t 53 5 (((fgi t 53 5) + 1)) := ⟨_, rfl⟩
      rw [← et9] at hP
      replace h := h t9 et9
      refine lv_goto (tgt := 96) hx hb dX5_begins_118 (by decide) ?_
      exact ih  t9 _ _ _ h hP hS (lv_sub hl [0] rfl)

set_option maxHeartbeats 4000000 in
set_option maxRecDepth 100000 in
theorem k_X5_begins_15 {D : va_G} {adr : Nat → Nat} {cs : Nat → ClassId} {N : Nat} (hN : 67 ≤ N) {p : Program} {l : Launch} {e : Env} {s : State} {m : MethodId} {args : Array Value} {below : List Frame} {meth : Method} {c : Code} (C : fCx D adr cs N p s m args meth c cX5_begins 3 (none) RX5 wm_X5_begins) {post : fcS → Prop} : ∀ (n : Nat) (v2 : Int32) (t : fcS) (H : Heap) (locs : List Loc) (ls : Array Slot), q_X5_begins_15 post n v2 t → va_P D vwCl (fwl adr N (fG adr cs t)) H → va_S (faN adr N) s.heap H locs → lv_has ls 3 [(0, .ref (adr 53)), (2, .int v2)] → W p l e ({ frames := 4, cells := 0, slots := 0, locals := 97 } : Room) s m args below meth c H locs 0 0 (MQ below (fQv D adr cs N post) args s 0 0 (faN adr N)) (F0 m 15 ls []) := by
  have hx := C.1.1
  have hb := C.1.2.1
  intro n
  induction n with
  | zero => intro v2 t H locs ls h; exact False.elim h
  | succ n ih =>
    intro v2 t H locs ls h hP hS hl
    unfold q_X5_begins_15 at h
    refine lv_iload_n hx hb dX5_begins_15 rfl (lv_at hl 1 rfl) ?_
    refine lv_sipush (v := 343) hx hb dX5_begins_16 (by decide) ?_
    refine lv_icmp_gt (tgt := 70) hx hb dX5_begins_19 (by decide) (fun c9 => ?_) (fun c9 => ?_)
    · replace h := h.1 c9
      refine lv_aload_n hx hb dX5_begins_70 rfl (lv_at hl 0 rfl) ?_
      refine lv_iconst (v := 0) hx hb dX5_begins_71 (by decide) ?_
      refine fr_put C (fsi t 53 6 0) (j := 6) (ty := .int) hP hS (by omega) (fG_MO adr cs t) rfl (fun w h => List.mem_cons_of_mem _ (inl_X5 w h)) tyX5_ok nmX5 (by decide) rfl (List.mem_cons_of_mem _ mw_8_2) rfl (by decide +kernel) rfl rfl (Nat.le_of_ble_eq_true rfl) (fS_MO_6 adr cs t 0) (fG_fsi_ne adr cs t 53 6 0) dX5_begins_72 (fun H locs hP hS => ?_)
      obtain ⟨t4, et4⟩ : ∃ y : fcS, y = fsi t 53 6 0 := ⟨_, rfl⟩
      rw [← et4] at hP
      replace h := h t4 et4
      refine lv_aload_n hx hb dX5_begins_75 rfl (lv_at hl 0 rfl) ?_
      refine lv_bipush (v := (-9)) hx hb dX5_begins_76 (by decide) ?_
      refine fr_put C (fsi t4 53 16 ((-9))) (j := 16) (ty := .int) hP hS (by omega) (fG_MO adr cs t4) rfl (fun w h => List.mem_cons_of_mem _ (inl_X5 w h)) tyX5_ok nmX5 (by decide) rfl (List.mem_cons_of_mem _ mw_7_16) rfl (by decide +kernel) rfl rfl (Nat.le_of_ble_eq_true rfl) (fS_MO_16 adr cs t4 ((-9))) (fG_fsi_ne adr cs t4 53 16 ((-9))) dX5_begins_78 (fun H locs hP hS => ?_)
      obtain ⟨t5, et5⟩ : ∃ y : fcS, y = fsi t4 53 16 ((-9)) := ⟨_, rfl⟩
      rw [← et5] at hP
      replace h := h t5 et5
      refine lv_aload_n hx hb dX5_begins_81 rfl (lv_at hl 0 rfl) ?_
      refine lv_iconst (v := 0) hx hb dX5_begins_82 (by decide) ?_
      refine fr_put C (fsi t5 53 15 0) (j := 15) (ty := .int) hP hS (by omega) (fG_MO adr cs t5) rfl (fun w h => List.mem_cons_of_mem _ (inl_X5 w h)) tyX5_ok nmX5 (by decide) rfl (List.mem_cons_of_mem _ mw_8_3) rfl (by decide +kernel) rfl rfl (Nat.le_of_ble_eq_true rfl) (fS_MO_15 adr cs t5 0) (fG_fsi_ne adr cs t5 53 15 0) dX5_begins_83 (fun H locs hP hS => ?_)
      obtain ⟨t6, et6⟩ : ∃ y : fcS, y = fsi t5 53 15 0 := ⟨_, rfl⟩
      rw [← et6] at hP
      replace h := h t6 et6
      refine lv_aload_n hx hb dX5_begins_86 rfl (lv_at hl 0 rfl) ?_
      refine lv_iconst (v := 1) hx hb dX5_begins_87 (by decide) ?_
      refine fr_cv (fr_runV (n := 1) (rest := []) C (c_X5_needSigns l D adr cs hN t6 1 _ h) hP hS (by omega) (fG_MO adr cs t6) rfl (fgV mw_9_13 mw_9_14 mw_9_15 mw_1_5 mw_9_16) rfl rfl rfl (by decide +kernel) ⟨Nat.le_of_ble_eq_true rfl, Nat.le_of_ble_eq_true rfl⟩ rfl hl.1 rfl (Nat.le_of_ble_eq_true rfl) dX5_begins_88) hS (fun t7 H locs h hP hS => ?_)
      refine lv_aload_n hx hb dX5_begins_91 rfl (lv_at hl 0 rfl) ?_
      refine lv_iconst (v := 0) hx hb dX5_begins_92 (by decide) ?_
      refine fr_put C (fsi t7 53 5 0) (j := 5) (ty := .int) hP hS (by omega) (fG_MO adr cs t7) rfl (fun w h => List.mem_cons_of_mem _ (inl_X5 w h)) tyX5_ok nmX5 (by decide) rfl (List.mem_cons_of_mem _ mw_8_4) rfl (by decide +kernel) rfl rfl (Nat.le_of_ble_eq_true rfl) (fS_MO_5 adr cs t7 0) (fG_fsi_ne adr cs t7 53 5 0) dX5_begins_93 (fun H locs hP hS => ?_)
      obtain ⟨t8, et8⟩ : ∃ y : fcS, y = fsi t7 53 5 0 := ⟨_, rfl⟩
      rw [← et8] at hP
      replace h := h t8 et8
      obtain ⟨n9, h⟩ := h
      exact k_X5_begins_96 hN C n9  t8 _ _ _ h hP hS (lv_sub hl [0] rfl)
    · replace h := h.2 c9
      refine lv_aload_n hx hb dX5_begins_22 rfl (lv_at hl 0 rfl) ?_
      refine lv_dup hx hb dX5_begins_23 rfl ?_
      refine fr_get (j := 2) C hP (by omega) (fG_MO adr cs t) rfl (fun w h => List.mem_cons_of_mem _ (inl_X5 w h)) (by decide) rfl (List.mem_cons_of_mem _ mw_7_6) rfl dX5_begins_24 ?_
      refine lv_iconst (v := 1) hx hb dX5_begins_27 (by decide) ?_
      refine lv_iadd hx hb dX5_begins_28 ?_
      refine fr_put C (fsi t 53 2 (((fgi t 53 2) + 1))) (j := 2) (ty := .int) hP hS (by omega) (fG_MO adr cs t) rfl (fun w h => List.mem_cons_of_mem _ (inl_X5 w h)) tyX5_ok nmX5 (by decide) rfl (List.mem_cons_of_mem _ mw_7_6) rfl (by decide +kernel) rfl rfl (Nat.le_of_ble_eq_true rfl) (fS_MO_2 adr cs t (((fgi t 53 2) + 1))) (fG_fsi_ne adr cs t 53 2 (((fgi t 53 2) + 1))) dX5_begins_29 (fun H locs hP hS => ?_)
      obtain ⟨t10, et10⟩ : ∃ y : fcS, y = fsi t 53 2 (((fgi t 53 2) + 1)) := ⟨_, rfl⟩
      rw [← et10] at hP
      replace h := h t10 et10
      refine lv_aload_n hx hb dX5_begins_32 rfl (lv_at hl 0 rfl) ?_
      refine fr_get (j := 3) C hP (by omega) (fG_MO adr cs t10) rfl (fun w h => List.mem_cons_of_mem _ (inl_X5 w h)) (by decide) rfl (List.mem_cons_of_mem _ mw_7_7) rfl dX5_begins_33 ?_
      refine lv_aload_n hx hb dX5_begins_36 rfl (lv_at hl 0 rfl) ?_
      refine fr_get (j := 2) C hP (by omega) (fG_MO adr cs t10) rfl (fun w h => List.mem_cons_of_mem _ (inl_X5 w h)) (by decide) rfl (List.mem_cons_of_mem _ mw_7_6) rfl dX5_begins_37 ?_
      refine lv_iload_n hx hb dX5_begins_40 rfl (lv_at hl 1 rfl) ?_
      refine fr_iast C hP hS (by omega) (fun u => (fG_54 adr cs u)) h.1 dX5_begins_41 (fun H locs hP hS => ?_)
      obtain ⟨t11, et11⟩ : ∃ y : fcS, y = fsa t10 54 (Int32.toNatClampNeg ((fgi t10 53 2))) v2 := ⟨_, rfl⟩
      rw [← et11] at hP
      replace h := h.2 t11 et11
      refine lv_aload_n hx hb dX5_begins_42 rfl (lv_at hl 0 rfl) ?_
      refine fr_get (j := 4) C hP (by omega) (fG_MO adr cs t11) rfl (fun w h => List.mem_cons_of_mem _ (inl_X5 w h)) (by decide) rfl (List.mem_cons_of_mem _ mw_7_8) rfl dX5_begins_43 ?_
      refine lv_aload_n hx hb dX5_begins_46 rfl (lv_at hl 0 rfl) ?_
      refine fr_get (j := 2) C hP (by omega) (fG_MO adr cs t11) rfl (fun w h => List.mem_cons_of_mem _ (inl_X5 w h)) (by decide) rfl (List.mem_cons_of_mem _ mw_7_6) rfl dX5_begins_47 ?_
      refine lv_aload_n hx hb dX5_begins_50 rfl (lv_at hl 0 rfl) ?_
      refine lv_aload_n hx hb dX5_begins_51 rfl (lv_at hl 0 rfl) ?_
      refine fr_get (j := 2) C hP (by omega) (fG_MO adr cs t11) rfl (fun w h => List.mem_cons_of_mem _ (inl_X5 w h)) (by decide) rfl (List.mem_cons_of_mem _ mw_7_6) rfl dX5_begins_52 ?_
      refine lv_iload_n hx hb dX5_begins_55 rfl (lv_at hl 1 rfl) ?_
      refine fr_ci (fr_runV (n := 2) (rest := [.int ((fgi t11 53 2)), .ref (adr 55)]) C (c_X5_least l D adr cs hN t11 ((fgi t11 53 2)) v2 _ h) hP hS (by omega) (fG_MO adr cs t11) rfl (fgV mw_8_5 mw_8_6 mw_8_7 mw_1_5 mw_8_8) rfl rfl rfl (by decide +kernel) ⟨Nat.le_of_ble_eq_true rfl, Nat.le_of_ble_eq_true rfl⟩ rfl hl.1 rfl (Nat.le_of_ble_eq_true rfl) dX5_begins_56) hS (fun r13 t12 H locs h hP hS => ?_)
      refine fr_iast C hP hS (by omega) (fun u => (fG_55 adr cs u)) h.1 dX5_begins_59 (fun H locs hP hS => ?_)
      obtain ⟨t14, et14⟩ : ∃ y : fcS, y = fsa t12 55 (Int32.toNatClampNeg ((fgi t11 53 2))) r13 := ⟨_, rfl⟩
      rw [← et14] at hP
      replace h := h.2 t14 et14
      refine lv_iload_n hx hb dX5_begins_60 rfl (lv_at hl 1 rfl) ?_
      refine lv_aload_n hx hb dX5_begins_61 rfl (lv_at hl 0 rfl) ?_
      refine fr_get (j := 1) C hP (by omega) (fG_MO adr cs t14) rfl (fun w h => List.mem_cons_of_mem _ (inl_X5 w h)) (by decide) rfl (List.mem_cons_of_mem _ mw_7_5) rfl dX5_begins_62 ?_
      refine lv_imul hx hb dX5_begins_65 ?_
      refine lv_topi (fun x15 ex15 => ?_)
      replace h := h x15 ex15
      refine lv_istore_n (lv' := [(2, .int x15), (0, .ref (adr 53))]) hx hb dX5_begins_66 rfl hl (by decide) rfl (fun ls hl => ?_)
      refine lv_goto (tgt := 15) hx hb dX5_begins_67 (by decide) ?_
      exact ih x15 t14 _ _ _ h hP hS (lv_sub hl [1, 0] rfl)

set_option maxHeartbeats 4000000 in
set_option maxRecDepth 100000 in
theorem c_X5_begins (l : Launch) (D : va_G) (adr : Nat → Nat) (cs : Nat → ClassId) {N : Nat} (hN : 67 ≤ N) (t : fcS) (a0 : Int32) (post : fcS → Prop) (h : q_X5_begins t a0 post) : Met l yX5_begins wm_X5_begins ({ frames := 4, cells := 0, slots := 0, locals := 97 } : Room) (fcPre D adr cs N t [.ref (adr 53), .int a0]) (fQv D adr cs N post) 0 0 (faN adr N) := by
  refine f_enter (cc := cX5_begins) (nL := 3) (ret := none) (lv := [(0, .ref (adr 53)), (1, .int a0)]) (own := RX5) (by decide) rfl (Nat.le_of_ble_eq_true rfl) rfl rfl ?_
  intro p e s m below meth c ls C hP hS hl
  have hx := C.1.1
  have hb := C.1.2.1
  unfold q_X5_begins at h
  refine lv_aload_n hx hb dX5_begins_0 rfl (lv_at hl 0 rfl) ?_
  refine lv_iload_n hx hb dX5_begins_1 rfl (lv_at hl 1 rfl) ?_
  refine fr_put C (fsi t 53 1 a0) (j := 1) (ty := .int) hP hS (by omega) (fG_MO adr cs t) rfl (fun w h => List.mem_cons_of_mem _ (inl_X5 w h)) tyX5_ok nmX5 (by decide) rfl (List.mem_cons_of_mem _ mw_7_5) rfl (by decide +kernel) rfl rfl (Nat.le_of_ble_eq_true rfl) (fS_MO_1 adr cs t a0) (fG_fsi_ne adr cs t 53 1 a0) dX5_begins_2 (fun H locs hP hS => ?_)
  obtain ⟨t1, et1⟩ : ∃ y : fcS, y = fsi t 53 1 a0 := ⟨_, rfl⟩
  rw [← et1] at hP
  replace h := h t1 et1
  refine lv_aload_n hx hb dX5_begins_5 rfl (lv_at hl 0 rfl) ?_
  refine lv_iconst (v := 0) hx hb dX5_begins_6 (by decide) ?_
  refine fr_put C (fsi t1 53 2 0) (j := 2) (ty := .int) hP hS (by omega) (fG_MO adr cs t1) rfl (fun w h => List.mem_cons_of_mem _ (inl_X5 w h)) tyX5_ok nmX5 (by decide) rfl (List.mem_cons_of_mem _ mw_7_6) rfl (by decide +kernel) rfl rfl (Nat.le_of_ble_eq_true rfl) (fS_MO_2 adr cs t1 0) (fG_fsi_ne adr cs t1 53 2 0) dX5_begins_7 (fun H locs hP hS => ?_)
  obtain ⟨t2, et2⟩ : ∃ y : fcS, y = fsi t1 53 2 0 := ⟨_, rfl⟩
  rw [← et2] at hP
  replace h := h t2 et2
  refine lv_aload_n hx hb dX5_begins_10 rfl (lv_at hl 0 rfl) ?_
  refine fr_get (j := 1) C hP (by omega) (fG_MO adr cs t2) rfl (fun w h => List.mem_cons_of_mem _ (inl_X5 w h)) (by decide) rfl (List.mem_cons_of_mem _ mw_7_5) rfl dX5_begins_11 ?_
  refine lv_topi (fun x3 ex3 => ?_)
  replace h := h x3 ex3
  refine lv_istore_n (lv' := [(2, .int x3), (0, .ref (adr 53)), (1, .int a0)]) hx hb dX5_begins_14 rfl hl (by decide) rfl (fun ls hl => ?_)
  obtain ⟨n9, h⟩ := h
  exact k_X5_begins_15 hN C n9 x3 t2 _ _ _ h hP hS (lv_sub hl [1, 0] rfl)

/-! X5.in -/
abbrev wm_X5_in : List Cond := Cond.code yX5_in cX5_in 6 (some .boolean) :: wsL_law
def q_X5_in (t : fcS) (a0 : Int64) (a1 : Int64) (a2 : Int64) (post : Int32 → fcS → Prop) : Prop := ((lg_cmp a0 a1) < 0 → (post 0 t)) ∧ (¬ (lg_cmp a0 a1) < 0 → ((0 < (lg_cmp a0 a2) → (post 0 t)) ∧ (¬ 0 < (lg_cmp a0 a2) → (post 1 t))))
set_option maxHeartbeats 4000000 in
set_option maxRecDepth 100000 in
theorem c_X5_in (l : Launch) (D : va_G) (adr : Nat → Nat) (cs : Nat → ClassId) {N : Nat} (hN : 67 ≤ N) (t : fcS) (a0 : Int64) (a1 : Int64) (a2 : Int64) (post : Int32 → fcS → Prop) (h : q_X5_in t a0 a1 a2 post) : Met l yX5_in wm_X5_in ({ frames := 0, cells := 0, slots := 0, locals := 0 } : Room) (fcPre D adr cs N t [.long a0, .long a1, .long a2]) (fQi D adr cs N post) 0 0 (faN adr N) := by
  refine f_enter (cc := cX5_in) (nL := 6) (ret := some .boolean) (lv := [(0, .long a0), (2, .long a1), (4, .long a2)]) (own := RX5) (by decide) rfl (Nat.le_of_ble_eq_true rfl) rfl rfl ?_
  intro p e s m below meth c ls C hP hS hl
  have hx := C.1.1
  have hb := C.1.2.1
  unfold q_X5_in at h
  refine lv_lload_n hx hb dX5_in_0 rfl (lv_at hl 0 rfl) ?_
  refine lv_lload_n hx hb dX5_in_1 rfl (lv_at hl 1 rfl) ?_
  refine W.lcmp hx hb dX5_in_2 ?_
  refine lv_if_lt (tgt := 17) hx hb dX5_in_3 (by decide) (fun c9 => ?_) (fun c9 => ?_)
  · replace h := h.1 c9
    refine lv_iconst (v := 0) hx hb dX5_in_17 (by decide) ?_
    exact fr_zret C hP hS rfl h dX5_in_18
  · replace h := h.2 c9
    refine lv_lload_n hx hb dX5_in_6 rfl (lv_at hl 0 rfl) ?_
    refine lv_lload hx hb dX5_in_7 (lv_at hl 2 rfl) ?_
    refine W.lcmp hx hb dX5_in_9 ?_
    refine lv_if_gt (tgt := 17) hx hb dX5_in_10 (by decide) (fun c9 => ?_) (fun c9 => ?_)
    · replace h := h.1 c9
      refine lv_iconst (v := 0) hx hb dX5_in_17 (by decide) ?_
      exact fr_zret C hP hS rfl h dX5_in_18
    · replace h := h.2 c9
      refine lv_iconst (v := 1) hx hb dX5_in_13 (by decide) ?_
      refine lv_goto (tgt := 18) hx hb dX5_in_14 (by decide) ?_
      exact fr_zret C hP hS rfl h dX5_in_18

/-! X5.join -/
abbrev wm_X5_join : List Cond := Cond.code yX5_join cX5_join 6 none :: wsL_law
def q_X5_join_3 (post : fcS → Prop) : Nat → Int32 → Int32 → Int32 → Int32 → Int32 → fcS → Prop
  | 0, _, _, _, _, _, _ => False
  | n + 1, v1, v2, v3, v4, v5, t => (16 ≤ v5 → (post t)) ∧ (¬ 16 ≤ v5 → ((vp_in (((16 * v2) + v5)) 640) ∧ ((vp_in (((16 * v3) + v5)) 640) ∧ (q_X5_left t (((fga t 60 (Int32.toNatClampNeg (((16 * v2) + v5)))) + (v4 * (fga t 60 (Int32.toNatClampNeg (((16 * v3) + v5))))))) (fun (r2 : Int32) (t1 : fcS) => (vp_in (((16 * v1) + v5)) 640) ∧ (∀ t3 : fcS, t3 = fsa t1 60 (Int32.toNatClampNeg (((16 * v1) + v5))) r2 → (∀ x4 : Int32, x4 = v5 + 1 → (q_X5_join_3 post n v1 v2 v3 v4 x4 t3))))))))
def q_X5_join (t : fcS) (a0 : Int32) (a1 : Int32) (a2 : Int32) (a3 : Int32) (post : fcS → Prop) : Prop := ∃ n0, q_X5_join_3 post n0 a0 a1 a2 a3 0 t
set_option maxHeartbeats 4000000 in
set_option maxRecDepth 100000 in
theorem k_X5_join_3 {D : va_G} {adr : Nat → Nat} {cs : Nat → ClassId} {N : Nat} (hN : 67 ≤ N) {p : Program} {l : Launch} {e : Env} {s : State} {m : MethodId} {args : Array Value} {below : List Frame} {meth : Method} {c : Code} (C : fCx D adr cs N p s m args meth c cX5_join 6 (none) RX5 wm_X5_join) {post : fcS → Prop} : ∀ (n : Nat) (v1 : Int32) (v2 : Int32) (v3 : Int32) (v4 : Int32) (v5 : Int32) (t : fcS) (H : Heap) (locs : List Loc) (ls : Array Slot), q_X5_join_3 post n v1 v2 v3 v4 v5 t → va_P D vwCl (fwl adr N (fG adr cs t)) H → va_S (faN adr N) s.heap H locs → lv_has ls 6 [(0, .ref (adr 53)), (1, .int v1), (2, .int v2), (3, .int v3), (4, .int v4), (5, .int v5)] → W p l e ({ frames := 1, cells := 0, slots := 0, locals := 22 } : Room) s m args below meth c H locs 0 0 (MQ below (fQv D adr cs N post) args s 0 0 (faN adr N)) (F0 m 3 ls []) := by
  have hx := C.1.1
  have hb := C.1.2.1
  intro n
  induction n with
  | zero => intro v1 v2 v3 v4 v5 t H locs ls h; exact False.elim h
  | succ n ih =>
    intro v1 v2 v3 v4 v5 t H locs ls h hP hS hl
    unfold q_X5_join_3 at h
    refine lv_iload hx hb dX5_join_3 (lv_at hl 5 rfl) ?_
    refine lv_bipush (v := 16) hx hb dX5_join_5 (by decide) ?_
    refine lv_icmp_ge (tgt := 60) hx hb dX5_join_7 (by decide) (fun c9 => ?_) (fun c9 => ?_)
    · replace h := h.1 c9
      exact fr_vret C hP hS h dX5_join_60
    · replace h := h.2 c9
      refine lv_aload_n hx hb dX5_join_10 rfl (lv_at hl 0 rfl) ?_
      refine fr_get (j := 13) C hP (by omega) (fG_MO adr cs t) rfl (fun w h => List.mem_cons_of_mem _ (inl_X5 w h)) (by decide) rfl (List.mem_cons_of_mem _ mw_7_14) rfl dX5_join_11 ?_
      refine lv_bipush (v := 16) hx hb dX5_join_14 (by decide) ?_
      refine lv_iload_n hx hb dX5_join_16 rfl (lv_at hl 1 rfl) ?_
      refine lv_imul hx hb dX5_join_17 ?_
      refine lv_iload hx hb dX5_join_18 (lv_at hl 5 rfl) ?_
      refine lv_iadd hx hb dX5_join_20 ?_
      refine lv_aload_n hx hb dX5_join_21 rfl (lv_at hl 0 rfl) ?_
      refine lv_aload_n hx hb dX5_join_22 rfl (lv_at hl 0 rfl) ?_
      refine fr_get (j := 13) C hP (by omega) (fG_MO adr cs t) rfl (fun w h => List.mem_cons_of_mem _ (inl_X5 w h)) (by decide) rfl (List.mem_cons_of_mem _ mw_7_14) rfl dX5_join_23 ?_
      refine lv_bipush (v := 16) hx hb dX5_join_26 (by decide) ?_
      refine lv_iload_n hx hb dX5_join_28 rfl (lv_at hl 2 rfl) ?_
      refine lv_imul hx hb dX5_join_29 ?_
      refine lv_iload hx hb dX5_join_30 (lv_at hl 5 rfl) ?_
      refine lv_iadd hx hb dX5_join_32 ?_
      refine fr_iald C hP (by omega) (fG_60 adr cs t) h.1 dX5_join_33 ?_
      replace h := h.2
      refine lv_iload hx hb dX5_join_34 (lv_at hl 4 rfl) ?_
      refine lv_aload_n hx hb dX5_join_36 rfl (lv_at hl 0 rfl) ?_
      refine fr_get (j := 13) C hP (by omega) (fG_MO adr cs t) rfl (fun w h => List.mem_cons_of_mem _ (inl_X5 w h)) (by decide) rfl (List.mem_cons_of_mem _ mw_7_14) rfl dX5_join_37 ?_
      refine lv_bipush (v := 16) hx hb dX5_join_40 (by decide) ?_
      refine lv_iload_n hx hb dX5_join_42 rfl (lv_at hl 3 rfl) ?_
      refine lv_imul hx hb dX5_join_43 ?_
      refine lv_iload hx hb dX5_join_44 (lv_at hl 5 rfl) ?_
      refine lv_iadd hx hb dX5_join_46 ?_
      refine fr_iald C hP (by omega) (fG_60 adr cs t) h.1 dX5_join_47 ?_
      replace h := h.2
      refine lv_imul hx hb dX5_join_48 ?_
      refine lv_iadd hx hb dX5_join_49 ?_
      refine fr_ci (fr_runV (n := 1) (rest := [.int (((16 * v1) + v5)), .ref (adr 60)]) C (c_X5_left l D adr cs hN t (((fga t 60 (Int32.toNatClampNeg (((16 * v2) + v5)))) + (v4 * (fga t 60 (Int32.toNatClampNeg (((16 * v3) + v5))))))) _ h) hP hS (by omega) (fG_MO adr cs t) rfl (fgV mw_9_9 mw_9_10 mw_9_11 mw_1_5 mw_9_12) rfl rfl rfl (by decide +kernel) ⟨Nat.le_of_ble_eq_true rfl, Nat.le_of_ble_eq_true rfl⟩ rfl hl.1 rfl (Nat.le_of_ble_eq_true rfl) dX5_join_50) hS (fun r2 t1 H locs h hP hS => ?_)
      refine fr_iast C hP hS (by omega) (fun u => (fG_60 adr cs u)) h.1 dX5_join_53 (fun H locs hP hS => ?_)
      obtain ⟨t3, et3⟩ : ∃ y : fcS, y = fsa t1 60 (Int32.toNatClampNeg (((16 * v1) + v5))) r2 := ⟨_, rfl⟩
      rw [← et3] at hP
      replace h := h.2 t3 et3
      obtain ⟨x4, ex4⟩ : ∃ y : Int32, y = v5 + 1 := ⟨_, rfl⟩
      replace h := h x4 ex4
      refine lv_iinc (v := x4) (lv' := [(5, .int x4), (0, .ref (adr 53)), (1, .int v1), (2, .int v2), (3, .int v3), (4, .int v4)]) hx hb dX5_join_54 hl (k := 5) rfl (by rw [ex4]; rfl) (by decide) rfl (fun ls hl => ?_)
      refine lv_goto (tgt := 3) hx hb dX5_join_57 (by decide) ?_
      exact ih v1 v2 v3 v4 x4 t3 _ _ _ h hP hS (lv_sub hl [1, 2, 3, 4, 5, 0] rfl)

set_option maxHeartbeats 4000000 in
set_option maxRecDepth 100000 in
theorem c_X5_join (l : Launch) (D : va_G) (adr : Nat → Nat) (cs : Nat → ClassId) {N : Nat} (hN : 67 ≤ N) (t : fcS) (a0 : Int32) (a1 : Int32) (a2 : Int32) (a3 : Int32) (post : fcS → Prop) (h : q_X5_join t a0 a1 a2 a3 post) : Met l yX5_join wm_X5_join ({ frames := 1, cells := 0, slots := 0, locals := 22 } : Room) (fcPre D adr cs N t [.ref (adr 53), .int a0, .int a1, .int a2, .int a3]) (fQv D adr cs N post) 0 0 (faN adr N) := by
  refine f_enter (cc := cX5_join) (nL := 6) (ret := none) (lv := [(0, .ref (adr 53)), (1, .int a0), (2, .int a1), (3, .int a2), (4, .int a3)]) (own := RX5) (by decide) rfl (Nat.le_of_ble_eq_true rfl) rfl rfl ?_
  intro p e s m below meth c ls C hP hS hl
  have hx := C.1.1
  have hb := C.1.2.1
  unfold q_X5_join at h
  refine lv_iconst (v := 0) hx hb dX5_join_0 (by decide) ?_
  refine lv_istore (lv' := [(5, .int 0), (0, .ref (adr 53)), (1, .int a0), (2, .int a1), (3, .int a2), (4, .int a3)]) hx hb dX5_join_1 hl (by decide) rfl (fun ls hl => ?_)
  obtain ⟨n9, h⟩ := h
  exact k_X5_join_3 hN C n9 a0 a1 a2 a3 0 t _ _ _ h hP hS (lv_sub hl [1, 2, 3, 4, 5, 0] rfl)

/-! X5.scale -/
abbrev wm_X5_scale : List Cond := Cond.code yX5_scale cX5_scale 4 none :: wsL_law
def q_X5_scale_2 (post : fcS → Prop) : Nat → Int32 → Int32 → Int32 → fcS → Prop
  | 0, _, _, _, _ => False
  | n + 1, v1, v2, v3, t => (16 ≤ v3 → (post t)) ∧ (¬ 16 ≤ v3 → ((vp_in (((16 * v1) + v3)) 640) ∧ ((¬ ((fgi t 53 1) : Int32) = 0) ∧ ((vp_in (((16 * v1) + v3)) 640) ∧ (∀ t1 : fcS, t1 = fsa t 60 (Int32.toNatClampNeg (((16 * v1) + v3))) ((irm (((fga t 60 (Int32.toNatClampNeg (((16 * v1) + v3)))) * v2)) ((fgi t 53 1)))) → (∀ x2 : Int32, x2 = v3 + 1 → (q_X5_scale_2 post n v1 v2 x2 t1)))))))
def q_X5_scale (t : fcS) (a0 : Int32) (a1 : Int32) (post : fcS → Prop) : Prop := ∃ n0, q_X5_scale_2 post n0 a0 a1 0 t
set_option maxHeartbeats 4000000 in
set_option maxRecDepth 100000 in
theorem k_X5_scale_2 {D : va_G} {adr : Nat → Nat} {cs : Nat → ClassId} {N : Nat} (hN : 67 ≤ N) {p : Program} {l : Launch} {e : Env} {s : State} {m : MethodId} {args : Array Value} {below : List Frame} {meth : Method} {c : Code} (C : fCx D adr cs N p s m args meth c cX5_scale 4 (none) RX5 wm_X5_scale) {post : fcS → Prop} : ∀ (n : Nat) (v1 : Int32) (v2 : Int32) (v3 : Int32) (t : fcS) (H : Heap) (locs : List Loc) (ls : Array Slot), q_X5_scale_2 post n v1 v2 v3 t → va_P D vwCl (fwl adr N (fG adr cs t)) H → va_S (faN adr N) s.heap H locs → lv_has ls 4 [(0, .ref (adr 53)), (1, .int v1), (2, .int v2), (3, .int v3)] → W p l e ({ frames := 0, cells := 0, slots := 0, locals := 0 } : Room) s m args below meth c H locs 0 0 (MQ below (fQv D adr cs N post) args s 0 0 (faN adr N)) (F0 m 2 ls []) := by
  have hx := C.1.1
  have hb := C.1.2.1
  intro n
  induction n with
  | zero => intro v1 v2 v3 t H locs ls h; exact False.elim h
  | succ n ih =>
    intro v1 v2 v3 t H locs ls h hP hS hl
    unfold q_X5_scale_2 at h
    refine lv_iload_n hx hb dX5_scale_2 rfl (lv_at hl 3 rfl) ?_
    refine lv_bipush (v := 16) hx hb dX5_scale_3 (by decide) ?_
    refine lv_icmp_ge (tgt := 43) hx hb dX5_scale_5 (by decide) (fun c9 => ?_) (fun c9 => ?_)
    · replace h := h.1 c9
      exact fr_vret C hP hS h dX5_scale_43
    · replace h := h.2 c9
      refine lv_aload_n hx hb dX5_scale_8 rfl (lv_at hl 0 rfl) ?_
      refine fr_get (j := 13) C hP (by omega) (fG_MO adr cs t) rfl (fun w h => List.mem_cons_of_mem _ (inl_X5 w h)) (by decide) rfl (List.mem_cons_of_mem _ mw_7_14) rfl dX5_scale_9 ?_
      refine lv_bipush (v := 16) hx hb dX5_scale_12 (by decide) ?_
      refine lv_iload_n hx hb dX5_scale_14 rfl (lv_at hl 1 rfl) ?_
      refine lv_imul hx hb dX5_scale_15 ?_
      refine lv_iload_n hx hb dX5_scale_16 rfl (lv_at hl 3 rfl) ?_
      refine lv_iadd hx hb dX5_scale_17 ?_
      refine lv_aload_n hx hb dX5_scale_18 rfl (lv_at hl 0 rfl) ?_
      refine fr_get (j := 13) C hP (by omega) (fG_MO adr cs t) rfl (fun w h => List.mem_cons_of_mem _ (inl_X5 w h)) (by decide) rfl (List.mem_cons_of_mem _ mw_7_14) rfl dX5_scale_19 ?_
      refine lv_bipush (v := 16) hx hb dX5_scale_22 (by decide) ?_
      refine lv_iload_n hx hb dX5_scale_24 rfl (lv_at hl 1 rfl) ?_
      refine lv_imul hx hb dX5_scale_25 ?_
      refine lv_iload_n hx hb dX5_scale_26 rfl (lv_at hl 3 rfl) ?_
      refine lv_iadd hx hb dX5_scale_27 ?_
      refine fr_iald C hP (by omega) (fG_60 adr cs t) h.1 dX5_scale_28 ?_
      replace h := h.2
      refine lv_iload_n hx hb dX5_scale_29 rfl (lv_at hl 2 rfl) ?_
      refine lv_imul hx hb dX5_scale_30 ?_
      refine lv_aload_n hx hb dX5_scale_31 rfl (lv_at hl 0 rfl) ?_
      refine fr_get (j := 1) C hP (by omega) (fG_MO adr cs t) rfl (fun w h => List.mem_cons_of_mem _ (inl_X5 w h)) (by decide) rfl (List.mem_cons_of_mem _ mw_7_5) rfl dX5_scale_32 ?_
      refine lv_irem hx hb dX5_scale_35 h.1 ?_
      replace h := h.2
      refine fr_iast C hP hS (by omega) (fun u => (fG_60 adr cs u)) h.1 dX5_scale_36 (fun H locs hP hS => ?_)
      obtain ⟨t1, et1⟩ : ∃ y : fcS, y = fsa t 60 (Int32.toNatClampNeg (((16 * v1) + v3))) ((irm (((fga t 60 (Int32.toNatClampNeg (((16 * v1) + v3)))) * v2)) ((fgi t 53 1)))) := ⟨_, rfl⟩
      rw [← et1] at hP
      replace h := h.2 t1 et1
      obtain ⟨x2, ex2⟩ : ∃ y : Int32, y = v3 + 1 := ⟨_, rfl⟩
      replace h := h x2 ex2
      refine lv_iinc (v := x2) (lv' := [(3, .int x2), (0, .ref (adr 53)), (1, .int v1), (2, .int v2)]) hx hb dX5_scale_37 hl (k := 3) rfl (by rw [ex2]; rfl) (by decide) rfl (fun ls hl => ?_)
      refine lv_goto (tgt := 2) hx hb dX5_scale_40 (by decide) ?_
      exact ih v1 v2 x2 t1 _ _ _ h hP hS (lv_sub hl [1, 2, 3, 0] rfl)

set_option maxHeartbeats 4000000 in
set_option maxRecDepth 100000 in
theorem c_X5_scale (l : Launch) (D : va_G) (adr : Nat → Nat) (cs : Nat → ClassId) {N : Nat} (hN : 67 ≤ N) (t : fcS) (a0 : Int32) (a1 : Int32) (post : fcS → Prop) (h : q_X5_scale t a0 a1 post) : Met l yX5_scale wm_X5_scale ({ frames := 0, cells := 0, slots := 0, locals := 0 } : Room) (fcPre D adr cs N t [.ref (adr 53), .int a0, .int a1]) (fQv D adr cs N post) 0 0 (faN adr N) := by
  refine f_enter (cc := cX5_scale) (nL := 4) (ret := none) (lv := [(0, .ref (adr 53)), (1, .int a0), (2, .int a1)]) (own := RX5) (by decide) rfl (Nat.le_of_ble_eq_true rfl) rfl rfl ?_
  intro p e s m below meth c ls C hP hS hl
  have hx := C.1.1
  have hb := C.1.2.1
  unfold q_X5_scale at h
  refine lv_iconst (v := 0) hx hb dX5_scale_0 (by decide) ?_
  refine lv_istore_n (lv' := [(3, .int 0), (0, .ref (adr 53)), (1, .int a0), (2, .int a1)]) hx hb dX5_scale_1 rfl hl (by decide) rfl (fun ls hl => ?_)
  obtain ⟨n9, h⟩ := h
  exact k_X5_scale_2 hN C n9 a0 a1 0 t _ _ _ h hP hS (lv_sub hl [1, 2, 3, 0] rfl)

/-! X5.common -/
abbrev wm_X5_common : List Cond := Cond.code yX5_common cX5_common 7 none :: wsL_law
def q_X5_common_39 (post : fcS → Prop) : Nat → Int32 → Int32 → Int32 → fcS → Prop
  | 0, _, _, _, _ => False
  | n + 1, v1, v2, v3, t => q_X5_degree t 30 (fun (r8 : Int32) (t7 : fcS) => (r8 < 0 → (q_X5_degree t7 v1 (fun (r10 : Int32) (t9 : fcS) => (vp_in (((16 * v1) + r10)) 640) ∧ (q_X5_inverse t9 ((fga t9 60 (Int32.toNatClampNeg (((16 * v1) + r10))))) (fun (r12 : Int32) (t11 : fcS) => q_X5_scale t11 v1 r12 (fun (t13 : fcS) => q_X5_scale t13 v2 r12 (fun (t14 : fcS) => q_X5_scale t14 v3 r12 (fun (t15 : fcS) => post t15)))))))) ∧ (¬ r8 < 0 → (q_X5_divide t7 33 34 v1 30 (fun (t16 : fcS) => q_X5_copy t16 v1 30 (fun (t17 : fcS) => q_X5_copy t17 30 34 (fun (t18 : fcS) => q_X5_multiply t18 35 33 31 (fun (t19 : fcS) => q_X5_join t19 36 v2 35 (((fgi t19 53 1) - 1)) (fun (t20 : fcS) => q_X5_copy t20 v2 31 (fun (t21 : fcS) => q_X5_copy t21 31 36 (fun (t22 : fcS) => q_X5_multiply t22 35 33 32 (fun (t23 : fcS) => q_X5_join t23 36 v3 35 (((fgi t23 53 1) - 1)) (fun (t24 : fcS) => q_X5_copy t24 v3 32 (fun (t25 : fcS) => q_X5_copy t25 32 36 (fun (t26 : fcS) => q_X5_common_39 post n v1 v2 v3 t26))))))))))))))
def q_X5_common (t : fcS) (a0 : Int32) (a1 : Int32) (a2 : Int32) (a3 : Int32) (a4 : Int32) (post : fcS → Prop) : Prop := q_X5_copy t a0 a3 (fun (t1 : fcS) => q_X5_copy t1 30 a4 (fun (t2 : fcS) => q_X5_load t2 a1 1 (fun (t3 : fcS) => q_X5_clear t3 31 (fun (t4 : fcS) => q_X5_clear t4 a2 (fun (t5 : fcS) => q_X5_load t5 32 1 (fun (t6 : fcS) => ∃ n0, q_X5_common_39 post n0 a0 a1 a2 t6))))))
set_option maxHeartbeats 4000000 in
set_option maxRecDepth 100000 in
theorem k_X5_common_39 {D : va_G} {adr : Nat → Nat} {cs : Nat → ClassId} {N : Nat} (hN : 67 ≤ N) {p : Program} {l : Launch} {e : Env} {s : State} {m : MethodId} {args : Array Value} {below : List Frame} {meth : Method} {c : Code} (C : fCx D adr cs N p s m args meth c cX5_common 7 (none) RX5 wm_X5_common) {post : fcS → Prop} : ∀ (n : Nat) (v1 : Int32) (v2 : Int32) (v3 : Int32) (t : fcS) (H : Heap) (locs : List Loc) (ls : Array Slot), q_X5_common_39 post n v1 v2 v3 t → va_P D vwCl (fwl adr N (fG adr cs t)) H → va_S (faN adr N) s.heap H locs → lv_has ls 7 [(0, .ref (adr 53)), (1, .int v1), (2, .int v2), (3, .int v3)] → W p l e ({ frames := 2, cells := 0, slots := 0, locals := 52 } : Room) s m args below meth c H locs 0 0 (MQ below (fQv D adr cs N post) args s 0 0 (faN adr N)) (F0 m 39 ls []) := by
  have hx := C.1.1
  have hb := C.1.2.1
  intro n
  induction n with
  | zero => intro v1 v2 v3 t H locs ls h; exact False.elim h
  | succ n ih =>
    intro v1 v2 v3 t H locs ls h hP hS hl
    unfold q_X5_common_39 at h
    refine lv_aload_n hx hb dX5_common_39 rfl (lv_at hl 0 rfl) ?_
    refine lv_bipush (v := 30) hx hb dX5_common_40 (by decide) ?_
    refine fr_ci (fr_runV (n := 1) (rest := []) C (c_X5_degree l D adr cs hN t 30 _ h) hP hS (by omega) (fG_MO adr cs t) rfl (fgV mw_9_1 mw_9_2 mw_9_3 mw_1_5 mw_9_4) rfl rfl rfl (by decide +kernel) ⟨Nat.le_of_ble_eq_true rfl, Nat.le_of_ble_eq_true rfl⟩ rfl hl.1 rfl (Nat.le_of_ble_eq_true rfl) dX5_common_42) hS (fun r8 t7 H locs h hP hS => ?_)
    refine lv_if_lt (tgt := 157) hx hb dX5_common_45 (by decide) (fun c9 => ?_) (fun c9 => ?_)
    · replace h := h.1 c9
      refine lv_aload_n hx hb dX5_common_157 rfl (lv_at hl 0 rfl) ?_
      refine lv_aload_n hx hb dX5_common_158 rfl (lv_at hl 0 rfl) ?_
      refine fr_get (j := 13) C hP (by omega) (fG_MO adr cs t7) rfl (fun w h => List.mem_cons_of_mem _ (inl_X5 w h)) (by decide) rfl (List.mem_cons_of_mem _ mw_7_14) rfl dX5_common_159 ?_
      refine lv_bipush (v := 16) hx hb dX5_common_162 (by decide) ?_
      refine lv_iload_n hx hb dX5_common_164 rfl (lv_at hl 1 rfl) ?_
      refine lv_imul hx hb dX5_common_165 ?_
      refine lv_aload_n hx hb dX5_common_166 rfl (lv_at hl 0 rfl) ?_
      refine lv_iload_n hx hb dX5_common_167 rfl (lv_at hl 1 rfl) ?_
      refine fr_ci (fr_runV (n := 1) (rest := [.int ((16 * v1)), .ref (adr 60), .ref (adr 53)]) C (c_X5_degree l D adr cs hN t7 v1 _ h) hP hS (by omega) (fG_MO adr cs t7) rfl (fgV mw_9_1 mw_9_2 mw_9_3 mw_1_5 mw_9_4) rfl rfl rfl (by decide +kernel) ⟨Nat.le_of_ble_eq_true rfl, Nat.le_of_ble_eq_true rfl⟩ rfl hl.1 rfl (Nat.le_of_ble_eq_true rfl) dX5_common_168) hS (fun r10 t9 H locs h hP hS => ?_)
      refine lv_iadd hx hb dX5_common_171 ?_
      refine fr_iald C hP (by omega) (fG_60 adr cs t9) h.1 dX5_common_172 ?_
      replace h := h.2
      refine fr_ci (fr_runV (n := 1) (rest := []) C (c_X5_inverse l D adr cs hN t9 ((fga t9 60 (Int32.toNatClampNeg (((16 * v1) + r10))))) _ h) hP hS (by omega) (fG_MO adr cs t9) rfl (fgV mw_9_5 mw_9_6 mw_9_7 mw_1_5 mw_9_8) rfl rfl rfl (by decide +kernel) ⟨Nat.le_of_ble_eq_true rfl, Nat.le_of_ble_eq_true rfl⟩ rfl hl.1 rfl (Nat.le_of_ble_eq_true rfl) dX5_common_173) hS (fun r12 t11 H locs h hP hS => ?_)
      refine lv_istore (lv' := [(6, .int r12), (0, .ref (adr 53)), (1, .int v1), (2, .int v2), (3, .int v3)]) hx hb dX5_common_176 hl (by decide) rfl (fun ls hl => ?_)
      refine lv_aload_n hx hb dX5_common_178 rfl (lv_at hl 1 rfl) ?_
      refine lv_iload_n hx hb dX5_common_179 rfl (lv_at hl 2 rfl) ?_
      refine lv_iload hx hb dX5_common_180 (lv_at hl 0 rfl) ?_
      refine fr_cv (fr_runV (n := 2) (rest := []) C (c_X5_scale l D adr cs hN t11 v1 r12 _ h) hP hS (by omega) (fG_MO adr cs t11) rfl (fgV mw_18_22 mw_18_23 mw_19_0 mw_1_5 mw_19_1) rfl rfl rfl (by decide +kernel) ⟨Nat.le_of_ble_eq_true rfl, Nat.le_of_ble_eq_true rfl⟩ rfl hl.1 rfl (Nat.le_of_ble_eq_true rfl) dX5_common_182) hS (fun t13 H locs h hP hS => ?_)
      refine lv_aload_n hx hb dX5_common_185 rfl (lv_at hl 1 rfl) ?_
      refine lv_iload_n hx hb dX5_common_186 rfl (lv_at hl 3 rfl) ?_
      refine lv_iload hx hb dX5_common_187 (lv_at hl 0 rfl) ?_
      refine fr_cv (fr_runV (n := 2) (rest := []) C (c_X5_scale l D adr cs hN t13 v2 r12 _ h) hP hS (by omega) (fG_MO adr cs t13) rfl (fgV mw_18_22 mw_18_23 mw_19_0 mw_1_5 mw_19_1) rfl rfl rfl (by decide +kernel) ⟨Nat.le_of_ble_eq_true rfl, Nat.le_of_ble_eq_true rfl⟩ rfl hl.1 rfl (Nat.le_of_ble_eq_true rfl) dX5_common_189) hS (fun t14 H locs h hP hS => ?_)
      refine lv_aload_n hx hb dX5_common_192 rfl (lv_at hl 1 rfl) ?_
      refine lv_iload_n hx hb dX5_common_193 rfl (lv_at hl 4 rfl) ?_
      refine lv_iload hx hb dX5_common_194 (lv_at hl 0 rfl) ?_
      refine fr_cv (fr_runV (n := 2) (rest := []) C (c_X5_scale l D adr cs hN t14 v3 r12 _ h) hP hS (by omega) (fG_MO adr cs t14) rfl (fgV mw_18_22 mw_18_23 mw_19_0 mw_1_5 mw_19_1) rfl rfl rfl (by decide +kernel) ⟨Nat.le_of_ble_eq_true rfl, Nat.le_of_ble_eq_true rfl⟩ rfl hl.1 rfl (Nat.le_of_ble_eq_true rfl) dX5_common_196) hS (fun t15 H locs h hP hS => ?_)
      exact fr_vret C hP hS h dX5_common_199
    · replace h := h.2 c9
      refine lv_aload_n hx hb dX5_common_48 rfl (lv_at hl 0 rfl) ?_
      refine lv_bipush (v := 33) hx hb dX5_common_49 (by decide) ?_
      refine lv_bipush (v := 34) hx hb dX5_common_51 (by decide) ?_
      refine lv_iload_n hx hb dX5_common_53 rfl (lv_at hl 1 rfl) ?_
      refine lv_bipush (v := 30) hx hb dX5_common_54 (by decide) ?_
      refine fr_cv (fr_runV (n := 4) (rest := []) C (c_X5_divide l D adr cs hN t7 33 34 v1 30 _ h) hP hS (by omega) (fG_MO adr cs t7) rfl (fgV mw_8_13 mw_8_14 mw_8_15 mw_1_5 mw_8_16) rfl rfl rfl (by decide +kernel) ⟨Nat.le_of_ble_eq_true rfl, Nat.le_of_ble_eq_true rfl⟩ rfl hl.1 rfl (Nat.le_of_ble_eq_true rfl) dX5_common_56) hS (fun t16 H locs h hP hS => ?_)
      refine lv_aload_n hx hb dX5_common_59 rfl (lv_at hl 0 rfl) ?_
      refine lv_iload_n hx hb dX5_common_60 rfl (lv_at hl 1 rfl) ?_
      refine lv_bipush (v := 30) hx hb dX5_common_61 (by decide) ?_
      refine fr_cv (fr_runV (n := 2) (rest := []) C (c_X5_copy l D adr cs hN t16 v1 30 _ h) hP hS (by omega) (fG_MO adr cs t16) rfl (fgV mw_8_21 mw_8_22 mw_8_23 mw_1_5 mw_9_0) rfl rfl rfl (by decide +kernel) ⟨Nat.le_of_ble_eq_true rfl, Nat.le_of_ble_eq_true rfl⟩ rfl hl.1 rfl (Nat.le_of_ble_eq_true rfl) dX5_common_63) hS (fun t17 H locs h hP hS => ?_)
      refine lv_aload_n hx hb dX5_common_66 rfl (lv_at hl 0 rfl) ?_
      refine lv_bipush (v := 30) hx hb dX5_common_67 (by decide) ?_
      refine lv_bipush (v := 34) hx hb dX5_common_69 (by decide) ?_
      refine fr_cv (fr_runV (n := 2) (rest := []) C (c_X5_copy l D adr cs hN t17 30 34 _ h) hP hS (by omega) (fG_MO adr cs t17) rfl (fgV mw_8_21 mw_8_22 mw_8_23 mw_1_5 mw_9_0) rfl rfl rfl (by decide +kernel) ⟨Nat.le_of_ble_eq_true rfl, Nat.le_of_ble_eq_true rfl⟩ rfl hl.1 rfl (Nat.le_of_ble_eq_true rfl) dX5_common_71) hS (fun t18 H locs h hP hS => ?_)
      refine lv_aload_n hx hb dX5_common_74 rfl (lv_at hl 0 rfl) ?_
      refine lv_bipush (v := 35) hx hb dX5_common_75 (by decide) ?_
      refine lv_bipush (v := 33) hx hb dX5_common_77 (by decide) ?_
      refine lv_bipush (v := 31) hx hb dX5_common_79 (by decide) ?_
      refine fr_cv (fr_runV (n := 3) (rest := []) C (c_X5_multiply l D adr cs hN t18 35 33 31 _ h) hP hS (by omega) (fG_MO adr cs t18) rfl (fgV mw_9_21 mw_9_22 mw_9_23 mw_1_5 mw_10_0) rfl rfl rfl (by decide +kernel) ⟨Nat.le_of_ble_eq_true rfl, Nat.le_of_ble_eq_true rfl⟩ rfl hl.1 rfl (Nat.le_of_ble_eq_true rfl) dX5_common_81) hS (fun t19 H locs h hP hS => ?_)
      refine lv_aload_n hx hb dX5_common_84 rfl (lv_at hl 0 rfl) ?_
      refine lv_bipush (v := 36) hx hb dX5_common_85 (by decide) ?_
      refine lv_iload_n hx hb dX5_common_87 rfl (lv_at hl 2 rfl) ?_
      refine lv_bipush (v := 35) hx hb dX5_common_88 (by decide) ?_
      refine lv_aload_n hx hb dX5_common_90 rfl (lv_at hl 0 rfl) ?_
      refine fr_get (j := 1) C hP (by omega) (fG_MO adr cs t19) rfl (fun w h => List.mem_cons_of_mem _ (inl_X5 w h)) (by decide) rfl (List.mem_cons_of_mem _ mw_7_5) rfl dX5_common_91 ?_
      refine lv_iconst (v := 1) hx hb dX5_common_94 (by decide) ?_
      refine lv_isub hx hb dX5_common_95 ?_
      refine fr_cv (fr_runV (n := 4) (rest := []) C (c_X5_join l D adr cs hN t19 36 v2 35 (((fgi t19 53 1) - 1)) _ h) hP hS (by omega) (fG_MO adr cs t19) rfl (fgV mw_18_18 mw_18_19 mw_18_20 mw_1_5 mw_18_21) rfl rfl rfl (by decide +kernel) ⟨Nat.le_of_ble_eq_true rfl, Nat.le_of_ble_eq_true rfl⟩ rfl hl.1 rfl (Nat.le_of_ble_eq_true rfl) dX5_common_96) hS (fun t20 H locs h hP hS => ?_)
      refine lv_aload_n hx hb dX5_common_99 rfl (lv_at hl 0 rfl) ?_
      refine lv_iload_n hx hb dX5_common_100 rfl (lv_at hl 2 rfl) ?_
      refine lv_bipush (v := 31) hx hb dX5_common_101 (by decide) ?_
      refine fr_cv (fr_runV (n := 2) (rest := []) C (c_X5_copy l D adr cs hN t20 v2 31 _ h) hP hS (by omega) (fG_MO adr cs t20) rfl (fgV mw_8_21 mw_8_22 mw_8_23 mw_1_5 mw_9_0) rfl rfl rfl (by decide +kernel) ⟨Nat.le_of_ble_eq_true rfl, Nat.le_of_ble_eq_true rfl⟩ rfl hl.1 rfl (Nat.le_of_ble_eq_true rfl) dX5_common_103) hS (fun t21 H locs h hP hS => ?_)
      refine lv_aload_n hx hb dX5_common_106 rfl (lv_at hl 0 rfl) ?_
      refine lv_bipush (v := 31) hx hb dX5_common_107 (by decide) ?_
      refine lv_bipush (v := 36) hx hb dX5_common_109 (by decide) ?_
      refine fr_cv (fr_runV (n := 2) (rest := []) C (c_X5_copy l D adr cs hN t21 31 36 _ h) hP hS (by omega) (fG_MO adr cs t21) rfl (fgV mw_8_21 mw_8_22 mw_8_23 mw_1_5 mw_9_0) rfl rfl rfl (by decide +kernel) ⟨Nat.le_of_ble_eq_true rfl, Nat.le_of_ble_eq_true rfl⟩ rfl hl.1 rfl (Nat.le_of_ble_eq_true rfl) dX5_common_111) hS (fun t22 H locs h hP hS => ?_)
      refine lv_aload_n hx hb dX5_common_114 rfl (lv_at hl 0 rfl) ?_
      refine lv_bipush (v := 35) hx hb dX5_common_115 (by decide) ?_
      refine lv_bipush (v := 33) hx hb dX5_common_117 (by decide) ?_
      refine lv_bipush (v := 32) hx hb dX5_common_119 (by decide) ?_
      refine fr_cv (fr_runV (n := 3) (rest := []) C (c_X5_multiply l D adr cs hN t22 35 33 32 _ h) hP hS (by omega) (fG_MO adr cs t22) rfl (fgV mw_9_21 mw_9_22 mw_9_23 mw_1_5 mw_10_0) rfl rfl rfl (by decide +kernel) ⟨Nat.le_of_ble_eq_true rfl, Nat.le_of_ble_eq_true rfl⟩ rfl hl.1 rfl (Nat.le_of_ble_eq_true rfl) dX5_common_121) hS (fun t23 H locs h hP hS => ?_)
      refine lv_aload_n hx hb dX5_common_124 rfl (lv_at hl 0 rfl) ?_
      refine lv_bipush (v := 36) hx hb dX5_common_125 (by decide) ?_
      refine lv_iload_n hx hb dX5_common_127 rfl (lv_at hl 3 rfl) ?_
      refine lv_bipush (v := 35) hx hb dX5_common_128 (by decide) ?_
      refine lv_aload_n hx hb dX5_common_130 rfl (lv_at hl 0 rfl) ?_
      refine fr_get (j := 1) C hP (by omega) (fG_MO adr cs t23) rfl (fun w h => List.mem_cons_of_mem _ (inl_X5 w h)) (by decide) rfl (List.mem_cons_of_mem _ mw_7_5) rfl dX5_common_131 ?_
      refine lv_iconst (v := 1) hx hb dX5_common_134 (by decide) ?_
      refine lv_isub hx hb dX5_common_135 ?_
      refine fr_cv (fr_runV (n := 4) (rest := []) C (c_X5_join l D adr cs hN t23 36 v3 35 (((fgi t23 53 1) - 1)) _ h) hP hS (by omega) (fG_MO adr cs t23) rfl (fgV mw_18_18 mw_18_19 mw_18_20 mw_1_5 mw_18_21) rfl rfl rfl (by decide +kernel) ⟨Nat.le_of_ble_eq_true rfl, Nat.le_of_ble_eq_true rfl⟩ rfl hl.1 rfl (Nat.le_of_ble_eq_true rfl) dX5_common_136) hS (fun t24 H locs h hP hS => ?_)
      refine lv_aload_n hx hb dX5_common_139 rfl (lv_at hl 0 rfl) ?_
      refine lv_iload_n hx hb dX5_common_140 rfl (lv_at hl 3 rfl) ?_
      refine lv_bipush (v := 32) hx hb dX5_common_141 (by decide) ?_
      refine fr_cv (fr_runV (n := 2) (rest := []) C (c_X5_copy l D adr cs hN t24 v3 32 _ h) hP hS (by omega) (fG_MO adr cs t24) rfl (fgV mw_8_21 mw_8_22 mw_8_23 mw_1_5 mw_9_0) rfl rfl rfl (by decide +kernel) ⟨Nat.le_of_ble_eq_true rfl, Nat.le_of_ble_eq_true rfl⟩ rfl hl.1 rfl (Nat.le_of_ble_eq_true rfl) dX5_common_143) hS (fun t25 H locs h hP hS => ?_)
      refine lv_aload_n hx hb dX5_common_146 rfl (lv_at hl 0 rfl) ?_
      refine lv_bipush (v := 32) hx hb dX5_common_147 (by decide) ?_
      refine lv_bipush (v := 36) hx hb dX5_common_149 (by decide) ?_
      refine fr_cv (fr_runV (n := 2) (rest := []) C (c_X5_copy l D adr cs hN t25 32 36 _ h) hP hS (by omega) (fG_MO adr cs t25) rfl (fgV mw_8_21 mw_8_22 mw_8_23 mw_1_5 mw_9_0) rfl rfl rfl (by decide +kernel) ⟨Nat.le_of_ble_eq_true rfl, Nat.le_of_ble_eq_true rfl⟩ rfl hl.1 rfl (Nat.le_of_ble_eq_true rfl) dX5_common_151) hS (fun t26 H locs h hP hS => ?_)
      refine lv_goto (tgt := 39) hx hb dX5_common_154 (by decide) ?_
      exact ih v1 v2 v3 t26 _ _ _ h hP hS (lv_sub hl [0, 1, 2, 3] rfl)

set_option maxHeartbeats 4000000 in
set_option maxRecDepth 100000 in
theorem c_X5_common (l : Launch) (D : va_G) (adr : Nat → Nat) (cs : Nat → ClassId) {N : Nat} (hN : 67 ≤ N) (t : fcS) (a0 : Int32) (a1 : Int32) (a2 : Int32) (a3 : Int32) (a4 : Int32) (post : fcS → Prop) (h : q_X5_common t a0 a1 a2 a3 a4 post) : Met l yX5_common wm_X5_common ({ frames := 2, cells := 0, slots := 0, locals := 52 } : Room) (fcPre D adr cs N t [.ref (adr 53), .int a0, .int a1, .int a2, .int a3, .int a4]) (fQv D adr cs N post) 0 0 (faN adr N) := by
  refine f_enter (cc := cX5_common) (nL := 7) (ret := none) (lv := [(0, .ref (adr 53)), (1, .int a0), (2, .int a1), (3, .int a2), (4, .int a3), (5, .int a4)]) (own := RX5) (by decide) rfl (Nat.le_of_ble_eq_true rfl) rfl rfl ?_
  intro p e s m below meth c ls C hP hS hl
  have hx := C.1.1
  have hb := C.1.2.1
  unfold q_X5_common at h
  refine lv_aload_n hx hb dX5_common_0 rfl (lv_at hl 0 rfl) ?_
  refine lv_iload_n hx hb dX5_common_1 rfl (lv_at hl 1 rfl) ?_
  refine lv_iload hx hb dX5_common_2 (lv_at hl 4 rfl) ?_
  refine fr_cv (fr_runV (n := 2) (rest := []) C (c_X5_copy l D adr cs hN t a0 a3 _ h) hP hS (by omega) (fG_MO adr cs t) rfl (fgV mw_8_21 mw_8_22 mw_8_23 mw_1_5 mw_9_0) rfl rfl rfl (by decide +kernel) ⟨Nat.le_of_ble_eq_true rfl, Nat.le_of_ble_eq_true rfl⟩ rfl hl.1 rfl (Nat.le_of_ble_eq_true rfl) dX5_common_4) hS (fun t1 H locs h hP hS => ?_)
  refine lv_aload_n hx hb dX5_common_7 rfl (lv_at hl 0 rfl) ?_
  refine lv_bipush (v := 30) hx hb dX5_common_8 (by decide) ?_
  refine lv_iload hx hb dX5_common_10 (lv_at hl 5 rfl) ?_
  refine fr_cv (fr_runV (n := 2) (rest := []) C (c_X5_copy l D adr cs hN t1 30 a4 _ h) hP hS (by omega) (fG_MO adr cs t1) rfl (fgV mw_8_21 mw_8_22 mw_8_23 mw_1_5 mw_9_0) rfl rfl rfl (by decide +kernel) ⟨Nat.le_of_ble_eq_true rfl, Nat.le_of_ble_eq_true rfl⟩ rfl hl.1 rfl (Nat.le_of_ble_eq_true rfl) dX5_common_12) hS (fun t2 H locs h hP hS => ?_)
  refine lv_aload_n hx hb dX5_common_15 rfl (lv_at hl 0 rfl) ?_
  refine lv_iload_n hx hb dX5_common_16 rfl (lv_at hl 2 rfl) ?_
  refine lv_iconst (v := 1) hx hb dX5_common_17 (by decide) ?_
  refine fr_cv (fr_runV (n := 2) (rest := []) C (c_X5_load l D adr cs hN t2 a1 1 _ h) hP hS (by omega) (fG_MO adr cs t2) rfl (fgV mw_8_9 mw_8_10 mw_8_11 mw_1_5 mw_8_12) rfl rfl rfl (by decide +kernel) ⟨Nat.le_of_ble_eq_true rfl, Nat.le_of_ble_eq_true rfl⟩ rfl hl.1 rfl (Nat.le_of_ble_eq_true rfl) dX5_common_18) hS (fun t3 H locs h hP hS => ?_)
  refine lv_aload_n hx hb dX5_common_21 rfl (lv_at hl 0 rfl) ?_
  refine lv_bipush (v := 31) hx hb dX5_common_22 (by decide) ?_
  refine fr_cv (fr_runV (n := 1) (rest := []) C (c_X5_clear l D adr cs hN t3 31 _ h) hP hS (by omega) (fG_MO adr cs t3) rfl (fgV mw_8_17 mw_8_18 mw_8_19 mw_1_5 mw_8_20) rfl rfl rfl (by decide +kernel) ⟨Nat.le_of_ble_eq_true rfl, Nat.le_of_ble_eq_true rfl⟩ rfl hl.1 rfl (Nat.le_of_ble_eq_true rfl) dX5_common_24) hS (fun t4 H locs h hP hS => ?_)
  refine lv_aload_n hx hb dX5_common_27 rfl (lv_at hl 0 rfl) ?_
  refine lv_iload_n hx hb dX5_common_28 rfl (lv_at hl 3 rfl) ?_
  refine fr_cv (fr_runV (n := 1) (rest := []) C (c_X5_clear l D adr cs hN t4 a2 _ h) hP hS (by omega) (fG_MO adr cs t4) rfl (fgV mw_8_17 mw_8_18 mw_8_19 mw_1_5 mw_8_20) rfl rfl rfl (by decide +kernel) ⟨Nat.le_of_ble_eq_true rfl, Nat.le_of_ble_eq_true rfl⟩ rfl hl.1 rfl (Nat.le_of_ble_eq_true rfl) dX5_common_29) hS (fun t5 H locs h hP hS => ?_)
  refine lv_aload_n hx hb dX5_common_32 rfl (lv_at hl 0 rfl) ?_
  refine lv_bipush (v := 32) hx hb dX5_common_33 (by decide) ?_
  refine lv_iconst (v := 1) hx hb dX5_common_35 (by decide) ?_
  refine fr_cv (fr_runV (n := 2) (rest := []) C (c_X5_load l D adr cs hN t5 32 1 _ h) hP hS (by omega) (fG_MO adr cs t5) rfl (fgV mw_8_9 mw_8_10 mw_8_11 mw_1_5 mw_8_12) rfl rfl rfl (by decide +kernel) ⟨Nat.le_of_ble_eq_true rfl, Nat.le_of_ble_eq_true rfl⟩ rfl hl.1 rfl (Nat.le_of_ble_eq_true rfl) dX5_common_36) hS (fun t6 H locs h hP hS => ?_)
  obtain ⟨n9, h⟩ := h
  exact k_X5_common_39 hN C n9 a0 a1 a2 t6 _ _ _ h hP hS (lv_sub hl [0, 1, 2, 3] rfl)

