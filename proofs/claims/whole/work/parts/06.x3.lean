/-! X3.place -/
abbrev wm_X3_place : List Cond := Cond.code yX3_place cX3_place 4 (some .int) :: wsL_law
def q_X3_place_4 (post : Int32 → fcS → Prop) : Nat → Int32 → Int32 → Int32 → fcS → Prop
  | 0, _, _, _, _ => False
  | n + 1, v1, v2, v3, t => (v1 ≤ v3 → (post v2 t)) ∧ (¬ v1 ≤ v3 → (∀ x1 : Int32, x1 = (v2 * (fgi t 1 0)) → (∀ x2 : Int32, x2 = v3 + 1 → (q_X3_place_4 post n v1 x1 x2 t))))
def q_X3_place (t : fcS) (a0 : Int32) (post : Int32 → fcS → Prop) : Prop := ∃ n0, q_X3_place_4 post n0 a0 1 0 t
set_option maxHeartbeats 4000000 in
set_option maxRecDepth 100000 in
theorem k_X3_place_4 {D : va_G} {adr : Nat → Nat} {cs : Nat → ClassId} {N : Nat} (hN : 53 ≤ N) {p : Program} {l : Launch} {e : Env} {s : State} {m : MethodId} {args : Array Value} {below : List Frame} {meth : Method} {c : Code} (C : fCx D adr cs N p s m args meth c cX3_place 4 (some .int) RX3 wm_X3_place) {post : Int32 → fcS → Prop} : ∀ (n : Nat) (v1 : Int32) (v2 : Int32) (v3 : Int32) (t : fcS) (H : Heap) (locs : List Loc) (ls : Array Slot), q_X3_place_4 post n v1 v2 v3 t → va_P D vwCl (fwl adr N (fG adr cs t)) H → va_S (faN adr N) s.heap H locs → lv_has ls 4 [(0, .ref (adr 1)), (1, .int v1), (2, .int v2), (3, .int v3)] → W p l e ({ frames := 0, cells := 0, slots := 0, locals := 0 } : Room) s m args below meth c H locs 0 0 (MQ below (fQi D adr cs N post) args s 0 0 (faN adr N)) (F0 m 4 ls []) := by
  have hx := C.1.1
  have hb := C.1.2.1
  intro n
  induction n with
  | zero => intro v1 v2 v3 t H locs ls h; exact False.elim h
  | succ n ih =>
    intro v1 v2 v3 t H locs ls h hP hS hl
    unfold q_X3_place_4 at h
    refine lv_iload_n hx hb dX3_place_4 rfl (lv_at hl 3 rfl) ?_
    refine lv_iload_n hx hb dX3_place_5 rfl (lv_at hl 1 rfl) ?_
    refine lv_icmp_ge (tgt := 22) hx hb dX3_place_6 (by decide) (fun c9 => ?_) (fun c9 => ?_)
    · replace h := h.1 c9
      refine lv_iload_n hx hb dX3_place_22 rfl (lv_at hl 2 rfl) ?_
      exact fr_iret C hP hS h dX3_place_23
    · replace h := h.2 c9
      refine lv_iload_n hx hb dX3_place_9 rfl (lv_at hl 2 rfl) ?_
      refine lv_aload_n hx hb dX3_place_10 rfl (lv_at hl 0 rfl) ?_
      refine fr_get (j := 0) C hP (by omega) (fG_PO adr cs t) rfl (fun w h => List.mem_cons_of_mem _ (inl_X3 w h)) (by decide) rfl (List.mem_cons_of_mem _ mw_2_8) rfl dX3_place_11 ?_
      refine lv_imul hx hb dX3_place_14 ?_
      refine lv_topi (fun x1 ex1 => ?_)
      replace h := h x1 ex1
      refine lv_istore_n (lv' := [(2, .int x1), (0, .ref (adr 1)), (1, .int v1), (3, .int v3)]) hx hb dX3_place_15 rfl hl (by decide) rfl (fun ls hl => ?_)
      obtain ⟨x2, ex2⟩ : ∃ y : Int32, y = v3 + 1 := ⟨_, rfl⟩
      replace h := h x2 ex2
      refine lv_iinc (v := x2) (lv' := [(3, .int x2), (2, .int x1), (0, .ref (adr 1)), (1, .int v1)]) hx hb dX3_place_16 hl (k := 3) rfl (by rw [ex2]; rfl) (by decide) rfl (fun ls hl => ?_)
      refine lv_goto (tgt := 4) hx hb dX3_place_19 (by decide) ?_
      exact ih v1 x1 x2 t _ _ _ h hP hS (lv_sub hl [2, 3, 1, 0] rfl)

set_option maxHeartbeats 4000000 in
set_option maxRecDepth 100000 in
theorem c_X3_place (l : Launch) (D : va_G) (adr : Nat → Nat) (cs : Nat → ClassId) {N : Nat} (hN : 53 ≤ N) (t : fcS) (a0 : Int32) (post : Int32 → fcS → Prop) (h : q_X3_place t a0 post) : Met l yX3_place wm_X3_place ({ frames := 0, cells := 0, slots := 0, locals := 0 } : Room) (fcPre D adr cs N t [.ref (adr 1), .int a0]) (fQi D adr cs N post) 0 0 (faN adr N) := by
  refine f_enter (cc := cX3_place) (nL := 4) (ret := some .int) (lv := [(0, .ref (adr 1)), (1, .int a0)]) (own := RX3) (by decide) rfl (Nat.le_of_ble_eq_true rfl) rfl rfl ?_
  intro p e s m below meth c ls C hP hS hl
  have hx := C.1.1
  have hb := C.1.2.1
  unfold q_X3_place at h
  refine lv_iconst (v := 1) hx hb dX3_place_0 (by decide) ?_
  refine lv_istore_n (lv' := [(2, .int 1), (0, .ref (adr 1)), (1, .int a0)]) hx hb dX3_place_1 rfl hl (by decide) rfl (fun ls hl => ?_)
  refine lv_iconst (v := 0) hx hb dX3_place_2 (by decide) ?_
  refine lv_istore_n (lv' := [(3, .int 0), (2, .int 1), (0, .ref (adr 1)), (1, .int a0)]) hx hb dX3_place_3 rfl hl (by decide) rfl (fun ls hl => ?_)
  obtain ⟨n9, h⟩ := h
  exact k_X3_place_4 hN C n9 a0 1 0 t _ _ _ h hP hS (lv_sub hl [2, 3, 1, 0] rfl)

/-! X3.coefficient -/
abbrev wm_X3_coefficient : List Cond := Cond.code yX3_coefficient cX3_coefficient 5 (some .int) :: wsL_law
def q_X3_coefficient_5 (post : Int32 → fcS → Prop) : Nat → Int32 → Int32 → Int32 → fcS → Prop
  | 0, _, _, _, _ => False
  | n + 1, v2, v3, v4, t => (v2 ≤ v4 → ((¬ ((fgi t 1 0) : Int32) = 0) ∧ (post ((irm v3 ((fgi t 1 0)))) t))) ∧ (¬ v2 ≤ v4 → ((¬ ((fgi t 1 0) : Int32) = 0) ∧ (∀ x1 : Int32, x1 = (v3 / (fgi t 1 0)) → (∀ x2 : Int32, x2 = v4 + 1 → (q_X3_coefficient_5 post n v2 x1 x2 t)))))
def q_X3_coefficient (t : fcS) (a0 : Int32) (a1 : Int32) (post : Int32 → fcS → Prop) : Prop := ∃ n0, q_X3_coefficient_5 post n0 a1 a0 0 t
set_option maxHeartbeats 4000000 in
set_option maxRecDepth 100000 in
theorem k_X3_coefficient_5 {D : va_G} {adr : Nat → Nat} {cs : Nat → ClassId} {N : Nat} (hN : 53 ≤ N) {p : Program} {l : Launch} {e : Env} {s : State} {m : MethodId} {args : Array Value} {below : List Frame} {meth : Method} {c : Code} (C : fCx D adr cs N p s m args meth c cX3_coefficient 5 (some .int) RX3 wm_X3_coefficient) {post : Int32 → fcS → Prop} : ∀ (n : Nat) (v2 : Int32) (v3 : Int32) (v4 : Int32) (t : fcS) (H : Heap) (locs : List Loc) (ls : Array Slot), q_X3_coefficient_5 post n v2 v3 v4 t → va_P D vwCl (fwl adr N (fG adr cs t)) H → va_S (faN adr N) s.heap H locs → lv_has ls 5 [(0, .ref (adr 1)), (2, .int v2), (3, .int v3), (4, .int v4)] → W p l e ({ frames := 0, cells := 0, slots := 0, locals := 0 } : Room) s m args below meth c H locs 0 0 (MQ below (fQi D adr cs N post) args s 0 0 (faN adr N)) (F0 m 5 ls []) := by
  have hx := C.1.1
  have hb := C.1.2.1
  intro n
  induction n with
  | zero => intro v2 v3 v4 t H locs ls h; exact False.elim h
  | succ n ih =>
    intro v2 v3 v4 t H locs ls h hP hS hl
    unfold q_X3_coefficient_5 at h
    refine lv_iload hx hb dX3_coefficient_5 (lv_at hl 3 rfl) ?_
    refine lv_iload_n hx hb dX3_coefficient_7 rfl (lv_at hl 1 rfl) ?_
    refine lv_icmp_ge (tgt := 24) hx hb dX3_coefficient_8 (by decide) (fun c9 => ?_) (fun c9 => ?_)
    · replace h := h.1 c9
      refine lv_iload_n hx hb dX3_coefficient_24 rfl (lv_at hl 2 rfl) ?_
      refine lv_aload_n hx hb dX3_coefficient_25 rfl (lv_at hl 0 rfl) ?_
      refine fr_get (j := 0) C hP (by omega) (fG_PO adr cs t) rfl (fun w h => List.mem_cons_of_mem _ (inl_X3 w h)) (by decide) rfl (List.mem_cons_of_mem _ mw_2_8) rfl dX3_coefficient_26 ?_
      refine lv_irem hx hb dX3_coefficient_29 h.1 ?_
      replace h := h.2
      exact fr_iret C hP hS h dX3_coefficient_30
    · replace h := h.2 c9
      refine lv_iload_n hx hb dX3_coefficient_11 rfl (lv_at hl 2 rfl) ?_
      refine lv_aload_n hx hb dX3_coefficient_12 rfl (lv_at hl 0 rfl) ?_
      refine fr_get (j := 0) C hP (by omega) (fG_PO adr cs t) rfl (fun w h => List.mem_cons_of_mem _ (inl_X3 w h)) (by decide) rfl (List.mem_cons_of_mem _ mw_2_8) rfl dX3_coefficient_13 ?_
      refine lv_idiv hx hb dX3_coefficient_16 h.1 ?_
      replace h := h.2
      refine lv_topi (fun x1 ex1 => ?_)
      replace h := h x1 ex1
      refine lv_istore_n (lv' := [(3, .int x1), (0, .ref (adr 1)), (2, .int v2), (4, .int v4)]) hx hb dX3_coefficient_17 rfl hl (by decide) rfl (fun ls hl => ?_)
      obtain ⟨x2, ex2⟩ : ∃ y : Int32, y = v4 + 1 := ⟨_, rfl⟩
      replace h := h x2 ex2
      refine lv_iinc (v := x2) (lv' := [(4, .int x2), (3, .int x1), (0, .ref (adr 1)), (2, .int v2)]) hx hb dX3_coefficient_18 hl (k := 3) rfl (by rw [ex2]; rfl) (by decide) rfl (fun ls hl => ?_)
      refine lv_goto (tgt := 5) hx hb dX3_coefficient_21 (by decide) ?_
      exact ih v2 x1 x2 t _ _ _ h hP hS (lv_sub hl [2, 3, 1, 0] rfl)

set_option maxHeartbeats 4000000 in
set_option maxRecDepth 100000 in
theorem c_X3_coefficient (l : Launch) (D : va_G) (adr : Nat → Nat) (cs : Nat → ClassId) {N : Nat} (hN : 53 ≤ N) (t : fcS) (a0 : Int32) (a1 : Int32) (post : Int32 → fcS → Prop) (h : q_X3_coefficient t a0 a1 post) : Met l yX3_coefficient wm_X3_coefficient ({ frames := 0, cells := 0, slots := 0, locals := 0 } : Room) (fcPre D adr cs N t [.ref (adr 1), .int a0, .int a1]) (fQi D adr cs N post) 0 0 (faN adr N) := by
  refine f_enter (cc := cX3_coefficient) (nL := 5) (ret := some .int) (lv := [(0, .ref (adr 1)), (1, .int a0), (2, .int a1)]) (own := RX3) (by decide) rfl (Nat.le_of_ble_eq_true rfl) rfl rfl ?_
  intro p e s m below meth c ls C hP hS hl
  have hx := C.1.1
  have hb := C.1.2.1
  unfold q_X3_coefficient at h
  refine lv_iload_n hx hb dX3_coefficient_0 rfl (lv_at hl 1 rfl) ?_
  refine lv_istore_n (lv' := [(3, .int a0), (0, .ref (adr 1)), (1, .int a0), (2, .int a1)]) hx hb dX3_coefficient_1 rfl hl (by decide) rfl (fun ls hl => ?_)
  refine lv_iconst (v := 0) hx hb dX3_coefficient_2 (by decide) ?_
  refine lv_istore (lv' := [(4, .int 0), (3, .int a0), (0, .ref (adr 1)), (1, .int a0), (2, .int a1)]) hx hb dX3_coefficient_3 hl (by decide) rfl (fun ls hl => ?_)
  obtain ⟨n9, h⟩ := h
  exact k_X3_coefficient_5 hN C n9 a1 a0 0 t _ _ _ h hP hS (lv_sub hl [2, 4, 1, 0] rfl)

/-! X3.degree -/
abbrev wm_X3_degree : List Cond := Cond.code yX3_degree cX3_degree 4 (some .int) :: wsL_law
def q_X3_degree_9 (post : Int32 → fcS → Prop) : Nat → Int32 → Int32 → fcS → Prop
  | 0, _, _, _ => False
  | n + 1, v2, v3, t => (v3 ≤ 0 → (post v2 t)) ∧ (¬ v3 ≤ 0 → ((20 ≤ v2 → (post v2 t)) ∧ (¬ 20 ≤ v2 → (∀ x2 : Int32, x2 = v2 + 1 → ((¬ ((fgi t 1 0) : Int32) = 0) ∧ (∀ x3 : Int32, x3 = (v3 / (fgi t 1 0)) → (q_X3_degree_9 post n x2 x3 t)))))))
def q_X3_degree (t : fcS) (a0 : Int32) (post : Int32 → fcS → Prop) : Prop := (¬ ((fgi t 1 0) : Int32) = 0) ∧ (∀ x1 : Int32, x1 = (a0 / (fgi t 1 0)) → (∃ n0, q_X3_degree_9 post n0 0 x1 t))
set_option maxHeartbeats 4000000 in
set_option maxRecDepth 100000 in
theorem k_X3_degree_9 {D : va_G} {adr : Nat → Nat} {cs : Nat → ClassId} {N : Nat} (hN : 53 ≤ N) {p : Program} {l : Launch} {e : Env} {s : State} {m : MethodId} {args : Array Value} {below : List Frame} {meth : Method} {c : Code} (C : fCx D adr cs N p s m args meth c cX3_degree 4 (some .int) RX3 wm_X3_degree) {post : Int32 → fcS → Prop} : ∀ (n : Nat) (v2 : Int32) (v3 : Int32) (t : fcS) (H : Heap) (locs : List Loc) (ls : Array Slot), q_X3_degree_9 post n v2 v3 t → va_P D vwCl (fwl adr N (fG adr cs t)) H → va_S (faN adr N) s.heap H locs → lv_has ls 4 [(0, .ref (adr 1)), (2, .int v2), (3, .int v3)] → W p l e ({ frames := 0, cells := 0, slots := 0, locals := 0 } : Room) s m args below meth c H locs 0 0 (MQ below (fQi D adr cs N post) args s 0 0 (faN adr N)) (F0 m 9 ls []) := by
  have hx := C.1.1
  have hb := C.1.2.1
  intro n
  induction n with
  | zero => intro v2 v3 t H locs ls h; exact False.elim h
  | succ n ih =>
    intro v2 v3 t H locs ls h hP hS hl
    unfold q_X3_degree_9 at h
    refine lv_iload_n hx hb dX3_degree_9 rfl (lv_at hl 2 rfl) ?_
    refine lv_if_le (tgt := 32) hx hb dX3_degree_10 (by decide) (fun c9 => ?_) (fun c9 => ?_)
    · replace h := h.1 c9
      refine lv_iload_n hx hb dX3_degree_32 rfl (lv_at hl 1 rfl) ?_
      exact fr_iret C hP hS h dX3_degree_33
    · replace h := h.2 c9
      refine lv_iload_n hx hb dX3_degree_13 rfl (lv_at hl 1 rfl) ?_
      refine lv_bipush (v := 20) hx hb dX3_degree_14 (by decide) ?_
      refine lv_icmp_ge (tgt := 32) hx hb dX3_degree_16 (by decide) (fun c9 => ?_) (fun c9 => ?_)
      · replace h := h.1 c9
        refine lv_iload_n hx hb dX3_degree_32 rfl (lv_at hl 1 rfl) ?_
        exact fr_iret C hP hS h dX3_degree_33
      · replace h := h.2 c9
        obtain ⟨x2, ex2⟩ : ∃ y : Int32, y = v2 + 1 := ⟨_, rfl⟩
        replace h := h x2 ex2
        refine lv_iinc (v := x2) (lv' := [(2, .int x2), (0, .ref (adr 1)), (3, .int v3)]) hx hb dX3_degree_19 hl (k := 1) rfl (by rw [ex2]; rfl) (by decide) rfl (fun ls hl => ?_)
        refine lv_iload_n hx hb dX3_degree_22 rfl (lv_at hl 2 rfl) ?_
        refine lv_aload_n hx hb dX3_degree_23 rfl (lv_at hl 1 rfl) ?_
        refine fr_get (j := 0) C hP (by omega) (fG_PO adr cs t) rfl (fun w h => List.mem_cons_of_mem _ (inl_X3 w h)) (by decide) rfl (List.mem_cons_of_mem _ mw_2_8) rfl dX3_degree_24 ?_
        refine lv_idiv hx hb dX3_degree_27 h.1 ?_
        replace h := h.2
        refine lv_topi (fun x3 ex3 => ?_)
        replace h := h x3 ex3
        refine lv_istore_n (lv' := [(3, .int x3), (2, .int x2), (0, .ref (adr 1))]) hx hb dX3_degree_28 rfl hl (by decide) rfl (fun ls hl => ?_)
        refine lv_goto (tgt := 9) hx hb dX3_degree_29 (by decide) ?_
        exact ih x2 x3 t _ _ _ h hP hS (lv_sub hl [2, 1, 0] rfl)

set_option maxHeartbeats 4000000 in
set_option maxRecDepth 100000 in
theorem c_X3_degree (l : Launch) (D : va_G) (adr : Nat → Nat) (cs : Nat → ClassId) {N : Nat} (hN : 53 ≤ N) (t : fcS) (a0 : Int32) (post : Int32 → fcS → Prop) (h : q_X3_degree t a0 post) : Met l yX3_degree wm_X3_degree ({ frames := 0, cells := 0, slots := 0, locals := 0 } : Room) (fcPre D adr cs N t [.ref (adr 1), .int a0]) (fQi D adr cs N post) 0 0 (faN adr N) := by
  refine f_enter (cc := cX3_degree) (nL := 4) (ret := some .int) (lv := [(0, .ref (adr 1)), (1, .int a0)]) (own := RX3) (by decide) rfl (Nat.le_of_ble_eq_true rfl) rfl rfl ?_
  intro p e s m below meth c ls C hP hS hl
  have hx := C.1.1
  have hb := C.1.2.1
  unfold q_X3_degree at h
  refine lv_iconst (v := 0) hx hb dX3_degree_0 (by decide) ?_
  refine lv_istore_n (lv' := [(2, .int 0), (0, .ref (adr 1)), (1, .int a0)]) hx hb dX3_degree_1 rfl hl (by decide) rfl (fun ls hl => ?_)
  refine lv_iload_n hx hb dX3_degree_2 rfl (lv_at hl 2 rfl) ?_
  refine lv_aload_n hx hb dX3_degree_3 rfl (lv_at hl 1 rfl) ?_
  refine fr_get (j := 0) C hP (by omega) (fG_PO adr cs t) rfl (fun w h => List.mem_cons_of_mem _ (inl_X3 w h)) (by decide) rfl (List.mem_cons_of_mem _ mw_2_8) rfl dX3_degree_4 ?_
  refine lv_idiv hx hb dX3_degree_7 h.1 ?_
  replace h := h.2
  refine lv_topi (fun x1 ex1 => ?_)
  replace h := h x1 ex1
  refine lv_istore_n (lv' := [(3, .int x1), (2, .int 0), (0, .ref (adr 1)), (1, .int a0)]) hx hb dX3_degree_8 rfl hl (by decide) rfl (fun ls hl => ?_)
  obtain ⟨n9, h⟩ := h
  exact k_X3_degree_9 hN C n9 0 x1 t _ _ _ h hP hS (lv_sub hl [2, 1, 0] rfl)

/-! X3.lead -/
abbrev wm_X3_lead : List Cond := Cond.code yX3_lead cX3_lead 4 (some .int) :: wsL_law
def q_X3_lead_4 (post : Int32 → fcS → Prop) : Nat → Int32 → Int32 → fcS → Prop
  | 0, _, _, _ => False
  | n + 1, v2, v3, t => (20 ≤ v3 → (post v2 t)) ∧ (¬ 20 ≤ v3 → ((v2 < (fgi t 1 0) → (post v2 t)) ∧ (¬ v2 < (fgi t 1 0) → ((¬ ((fgi t 1 0) : Int32) = 0) ∧ (∀ x1 : Int32, x1 = (v2 / (fgi t 1 0)) → (∀ x2 : Int32, x2 = v3 + 1 → (q_X3_lead_4 post n x1 x2 t)))))))
def q_X3_lead (t : fcS) (a0 : Int32) (post : Int32 → fcS → Prop) : Prop := ∃ n0, q_X3_lead_4 post n0 a0 0 t
set_option maxHeartbeats 4000000 in
set_option maxRecDepth 100000 in
theorem k_X3_lead_4 {D : va_G} {adr : Nat → Nat} {cs : Nat → ClassId} {N : Nat} (hN : 53 ≤ N) {p : Program} {l : Launch} {e : Env} {s : State} {m : MethodId} {args : Array Value} {below : List Frame} {meth : Method} {c : Code} (C : fCx D adr cs N p s m args meth c cX3_lead 4 (some .int) RX3 wm_X3_lead) {post : Int32 → fcS → Prop} : ∀ (n : Nat) (v2 : Int32) (v3 : Int32) (t : fcS) (H : Heap) (locs : List Loc) (ls : Array Slot), q_X3_lead_4 post n v2 v3 t → va_P D vwCl (fwl adr N (fG adr cs t)) H → va_S (faN adr N) s.heap H locs → lv_has ls 4 [(0, .ref (adr 1)), (2, .int v2), (3, .int v3)] → W p l e ({ frames := 0, cells := 0, slots := 0, locals := 0 } : Room) s m args below meth c H locs 0 0 (MQ below (fQi D adr cs N post) args s 0 0 (faN adr N)) (F0 m 4 ls []) := by
  have hx := C.1.1
  have hb := C.1.2.1
  intro n
  induction n with
  | zero => intro v2 v3 t H locs ls h; exact False.elim h
  | succ n ih =>
    intro v2 v3 t H locs ls h hP hS hl
    unfold q_X3_lead_4 at h
    refine lv_iload_n hx hb dX3_lead_4 rfl (lv_at hl 2 rfl) ?_
    refine lv_bipush (v := 20) hx hb dX3_lead_5 (by decide) ?_
    refine lv_icmp_ge (tgt := 31) hx hb dX3_lead_7 (by decide) (fun c9 => ?_) (fun c9 => ?_)
    · replace h := h.1 c9
      refine lv_iload_n hx hb dX3_lead_31 rfl (lv_at hl 1 rfl) ?_
      exact fr_iret C hP hS h dX3_lead_32
    · replace h := h.2 c9
      refine lv_iload_n hx hb dX3_lead_10 rfl (lv_at hl 1 rfl) ?_
      refine lv_aload_n hx hb dX3_lead_11 rfl (lv_at hl 0 rfl) ?_
      refine fr_get (j := 0) C hP (by omega) (fG_PO adr cs t) rfl (fun w h => List.mem_cons_of_mem _ (inl_X3 w h)) (by decide) rfl (List.mem_cons_of_mem _ mw_2_8) rfl dX3_lead_12 ?_
      refine lv_icmp_lt (tgt := 31) hx hb dX3_lead_15 (by decide) (fun c9 => ?_) (fun c9 => ?_)
      · replace h := h.1 c9
        refine lv_iload_n hx hb dX3_lead_31 rfl (lv_at hl 1 rfl) ?_
        exact fr_iret C hP hS h dX3_lead_32
      · replace h := h.2 c9
        refine lv_iload_n hx hb dX3_lead_18 rfl (lv_at hl 1 rfl) ?_
        refine lv_aload_n hx hb dX3_lead_19 rfl (lv_at hl 0 rfl) ?_
        refine fr_get (j := 0) C hP (by omega) (fG_PO adr cs t) rfl (fun w h => List.mem_cons_of_mem _ (inl_X3 w h)) (by decide) rfl (List.mem_cons_of_mem _ mw_2_8) rfl dX3_lead_20 ?_
        refine lv_idiv hx hb dX3_lead_23 h.1 ?_
        replace h := h.2
        refine lv_topi (fun x1 ex1 => ?_)
        replace h := h x1 ex1
        refine lv_istore_n (lv' := [(2, .int x1), (0, .ref (adr 1)), (3, .int v3)]) hx hb dX3_lead_24 rfl hl (by decide) rfl (fun ls hl => ?_)
        obtain ⟨x2, ex2⟩ : ∃ y : Int32, y = v3 + 1 := ⟨_, rfl⟩
        replace h := h x2 ex2
        refine lv_iinc (v := x2) (lv' := [(3, .int x2), (2, .int x1), (0, .ref (adr 1))]) hx hb dX3_lead_25 hl (k := 2) rfl (by rw [ex2]; rfl) (by decide) rfl (fun ls hl => ?_)
        refine lv_goto (tgt := 4) hx hb dX3_lead_28 (by decide) ?_
        exact ih x1 x2 t _ _ _ h hP hS (lv_sub hl [2, 1, 0] rfl)

set_option maxHeartbeats 4000000 in
set_option maxRecDepth 100000 in
theorem c_X3_lead (l : Launch) (D : va_G) (adr : Nat → Nat) (cs : Nat → ClassId) {N : Nat} (hN : 53 ≤ N) (t : fcS) (a0 : Int32) (post : Int32 → fcS → Prop) (h : q_X3_lead t a0 post) : Met l yX3_lead wm_X3_lead ({ frames := 0, cells := 0, slots := 0, locals := 0 } : Room) (fcPre D adr cs N t [.ref (adr 1), .int a0]) (fQi D adr cs N post) 0 0 (faN adr N) := by
  refine f_enter (cc := cX3_lead) (nL := 4) (ret := some .int) (lv := [(0, .ref (adr 1)), (1, .int a0)]) (own := RX3) (by decide) rfl (Nat.le_of_ble_eq_true rfl) rfl rfl ?_
  intro p e s m below meth c ls C hP hS hl
  have hx := C.1.1
  have hb := C.1.2.1
  unfold q_X3_lead at h
  refine lv_iload_n hx hb dX3_lead_0 rfl (lv_at hl 1 rfl) ?_
  refine lv_istore_n (lv' := [(2, .int a0), (0, .ref (adr 1)), (1, .int a0)]) hx hb dX3_lead_1 rfl hl (by decide) rfl (fun ls hl => ?_)
  refine lv_iconst (v := 0) hx hb dX3_lead_2 (by decide) ?_
  refine lv_istore_n (lv' := [(3, .int 0), (2, .int a0), (0, .ref (adr 1)), (1, .int a0)]) hx hb dX3_lead_3 rfl hl (by decide) rfl (fun ls hl => ?_)
  obtain ⟨n9, h⟩ := h
  exact k_X3_lead_4 hN C n9 a0 0 t _ _ _ h hP hS (lv_sub hl [2, 1, 0] rfl)

/-! X3.sum -/
abbrev wm_X3_sum : List Cond := Cond.code yX3_sum cX3_sum 8 (some .int) :: wsL_law
def q_X3_sum_14 (post : Int32 → fcS → Prop) : Nat → Int32 → Int32 → Int32 → Int32 → Int32 → fcS → Prop
  | 0, _, _, _, _, _, _ => False
  | n + 1, v3, v4, v5, v6, v7, t => (20 ≤ v7 → (post ((v6 + ((v3 + v4) * v5))) t)) ∧ (¬ 20 ≤ v7 → ((v3 ≤ 0 → (post ((v6 + ((v3 + v4) * v5))) t)) ∧ (¬ v3 ≤ 0 → ((v4 ≤ 0 → (post ((v6 + ((v3 + v4) * v5))) t)) ∧ (¬ v4 ≤ 0 → ((¬ ((fgi t 1 0) : Int32) = 0) ∧ ((¬ ((fgi t 1 0) : Int32) = 0) ∧ ((¬ ((fgi t 1 0) : Int32) = 0) ∧ (∀ x1 : Int32, x1 = (v6 + ((irm (((irm v3 ((fgi t 1 0))) + (irm v4 ((fgi t 1 0))))) ((fgi t 1 0))) * v5)) → ((¬ ((fgi t 1 0) : Int32) = 0) ∧ (∀ x2 : Int32, x2 = (v3 / (fgi t 1 0)) → ((¬ ((fgi t 1 0) : Int32) = 0) ∧ (∀ x3 : Int32, x3 = (v4 / (fgi t 1 0)) → (∀ x4 : Int32, x4 = (v5 * (fgi t 1 0)) → (∀ x5 : Int32, x5 = v7 + 1 → (q_X3_sum_14 post n x2 x3 x4 x1 x5 t))))))))))))))))
def q_X3_sum (t : fcS) (a0 : Int32) (a1 : Int32) (post : Int32 → fcS → Prop) : Prop := ∃ n0, q_X3_sum_14 post n0 a0 a1 1 0 0 t
set_option maxHeartbeats 4000000 in
set_option maxRecDepth 100000 in
theorem k_X3_sum_14 {D : va_G} {adr : Nat → Nat} {cs : Nat → ClassId} {N : Nat} (hN : 53 ≤ N) {p : Program} {l : Launch} {e : Env} {s : State} {m : MethodId} {args : Array Value} {below : List Frame} {meth : Method} {c : Code} (C : fCx D adr cs N p s m args meth c cX3_sum 8 (some .int) RX3 wm_X3_sum) {post : Int32 → fcS → Prop} : ∀ (n : Nat) (v3 : Int32) (v4 : Int32) (v5 : Int32) (v6 : Int32) (v7 : Int32) (t : fcS) (H : Heap) (locs : List Loc) (ls : Array Slot), q_X3_sum_14 post n v3 v4 v5 v6 v7 t → va_P D vwCl (fwl adr N (fG adr cs t)) H → va_S (faN adr N) s.heap H locs → lv_has ls 8 [(0, .ref (adr 1)), (3, .int v3), (4, .int v4), (5, .int v5), (6, .int v6), (7, .int v7)] → W p l e ({ frames := 0, cells := 0, slots := 0, locals := 0 } : Room) s m args below meth c H locs 0 0 (MQ below (fQi D adr cs N post) args s 0 0 (faN adr N)) (F0 m 14 ls []) := by
  have hx := C.1.1
  have hb := C.1.2.1
  intro n
  induction n with
  | zero => intro v3 v4 v5 v6 v7 t H locs ls h; exact False.elim h
  | succ n ih =>
    intro v3 v4 v5 v6 v7 t H locs ls h hP hS hl
    unfold q_X3_sum_14 at h
    refine lv_iload hx hb dX3_sum_14 (lv_at hl 5 rfl) ?_
    refine lv_bipush (v := 20) hx hb dX3_sum_16 (by decide) ?_
    refine lv_icmp_ge (tgt := 88) hx hb dX3_sum_18 (by decide) (fun c9 => ?_) (fun c9 => ?_)
    · replace h := h.1 c9
      refine lv_iload hx hb dX3_sum_88 (lv_at hl 4 rfl) ?_
      refine lv_iload_n hx hb dX3_sum_90 rfl (lv_at hl 1 rfl) ?_
      refine lv_iload hx hb dX3_sum_91 (lv_at hl 2 rfl) ?_
      refine lv_iadd hx hb dX3_sum_93 ?_
      refine lv_iload hx hb dX3_sum_94 (lv_at hl 3 rfl) ?_
      refine lv_imul hx hb dX3_sum_96 ?_
      refine lv_iadd hx hb dX3_sum_97 ?_
      exact fr_iret C hP hS h dX3_sum_98
    · replace h := h.2 c9
      refine lv_iload_n hx hb dX3_sum_21 rfl (lv_at hl 1 rfl) ?_
      refine lv_if_le (tgt := 88) hx hb dX3_sum_22 (by decide) (fun c9 => ?_) (fun c9 => ?_)
      · replace h := h.1 c9
        refine lv_iload hx hb dX3_sum_88 (lv_at hl 4 rfl) ?_
        refine lv_iload_n hx hb dX3_sum_90 rfl (lv_at hl 1 rfl) ?_
        refine lv_iload hx hb dX3_sum_91 (lv_at hl 2 rfl) ?_
        refine lv_iadd hx hb dX3_sum_93 ?_
        refine lv_iload hx hb dX3_sum_94 (lv_at hl 3 rfl) ?_
        refine lv_imul hx hb dX3_sum_96 ?_
        refine lv_iadd hx hb dX3_sum_97 ?_
        exact fr_iret C hP hS h dX3_sum_98
      · replace h := h.2 c9
        refine lv_iload hx hb dX3_sum_25 (lv_at hl 2 rfl) ?_
        refine lv_if_le (tgt := 88) hx hb dX3_sum_27 (by decide) (fun c9 => ?_) (fun c9 => ?_)
        · replace h := h.1 c9
          refine lv_iload hx hb dX3_sum_88 (lv_at hl 4 rfl) ?_
          refine lv_iload_n hx hb dX3_sum_90 rfl (lv_at hl 1 rfl) ?_
          refine lv_iload hx hb dX3_sum_91 (lv_at hl 2 rfl) ?_
          refine lv_iadd hx hb dX3_sum_93 ?_
          refine lv_iload hx hb dX3_sum_94 (lv_at hl 3 rfl) ?_
          refine lv_imul hx hb dX3_sum_96 ?_
          refine lv_iadd hx hb dX3_sum_97 ?_
          exact fr_iret C hP hS h dX3_sum_98
        · replace h := h.2 c9
          refine lv_iload hx hb dX3_sum_30 (lv_at hl 4 rfl) ?_
          refine lv_iload_n hx hb dX3_sum_32 rfl (lv_at hl 1 rfl) ?_
          refine lv_aload_n hx hb dX3_sum_33 rfl (lv_at hl 0 rfl) ?_
          refine fr_get (j := 0) C hP (by omega) (fG_PO adr cs t) rfl (fun w h => List.mem_cons_of_mem _ (inl_X3 w h)) (by decide) rfl (List.mem_cons_of_mem _ mw_2_8) rfl dX3_sum_34 ?_
          refine lv_irem hx hb dX3_sum_37 h.1 ?_
          replace h := h.2
          refine lv_iload hx hb dX3_sum_38 (lv_at hl 2 rfl) ?_
          refine lv_aload_n hx hb dX3_sum_40 rfl (lv_at hl 0 rfl) ?_
          refine fr_get (j := 0) C hP (by omega) (fG_PO adr cs t) rfl (fun w h => List.mem_cons_of_mem _ (inl_X3 w h)) (by decide) rfl (List.mem_cons_of_mem _ mw_2_8) rfl dX3_sum_41 ?_
          refine lv_irem hx hb dX3_sum_44 h.1 ?_
          replace h := h.2
          refine lv_iadd hx hb dX3_sum_45 ?_
          refine lv_aload_n hx hb dX3_sum_46 rfl (lv_at hl 0 rfl) ?_
          refine fr_get (j := 0) C hP (by omega) (fG_PO adr cs t) rfl (fun w h => List.mem_cons_of_mem _ (inl_X3 w h)) (by decide) rfl (List.mem_cons_of_mem _ mw_2_8) rfl dX3_sum_47 ?_
          refine lv_irem hx hb dX3_sum_50 h.1 ?_
          replace h := h.2
          refine lv_iload hx hb dX3_sum_51 (lv_at hl 3 rfl) ?_
          refine lv_imul hx hb dX3_sum_53 ?_
          refine lv_iadd hx hb dX3_sum_54 ?_
          refine lv_topi (fun x1 ex1 => ?_)
          replace h := h x1 ex1
          refine lv_istore (lv' := [(6, .int x1), (0, .ref (adr 1)), (3, .int v3), (4, .int v4), (5, .int v5), (7, .int v7)]) hx hb dX3_sum_55 hl (by decide) rfl (fun ls hl => ?_)
          refine lv_iload_n hx hb dX3_sum_57 rfl (lv_at hl 2 rfl) ?_
          refine lv_aload_n hx hb dX3_sum_58 rfl (lv_at hl 1 rfl) ?_
          refine fr_get (j := 0) C hP (by omega) (fG_PO adr cs t) rfl (fun w h => List.mem_cons_of_mem _ (inl_X3 w h)) (by decide) rfl (List.mem_cons_of_mem _ mw_2_8) rfl dX3_sum_59 ?_
          refine lv_idiv hx hb dX3_sum_62 h.1 ?_
          replace h := h.2
          refine lv_topi (fun x2 ex2 => ?_)
          replace h := h x2 ex2
          refine lv_istore_n (lv' := [(3, .int x2), (6, .int x1), (0, .ref (adr 1)), (4, .int v4), (5, .int v5), (7, .int v7)]) hx hb dX3_sum_63 rfl hl (by decide) rfl (fun ls hl => ?_)
          refine lv_iload hx hb dX3_sum_64 (lv_at hl 3 rfl) ?_
          refine lv_aload_n hx hb dX3_sum_66 rfl (lv_at hl 2 rfl) ?_
          refine fr_get (j := 0) C hP (by omega) (fG_PO adr cs t) rfl (fun w h => List.mem_cons_of_mem _ (inl_X3 w h)) (by decide) rfl (List.mem_cons_of_mem _ mw_2_8) rfl dX3_sum_67 ?_
          refine lv_idiv hx hb dX3_sum_70 h.1 ?_
          replace h := h.2
          refine lv_topi (fun x3 ex3 => ?_)
          replace h := h x3 ex3
          refine lv_istore (lv' := [(4, .int x3), (3, .int x2), (6, .int x1), (0, .ref (adr 1)), (5, .int v5), (7, .int v7)]) hx hb dX3_sum_71 hl (by decide) rfl (fun ls hl => ?_)
          refine lv_iload hx hb dX3_sum_73 (lv_at hl 4 rfl) ?_
          refine lv_aload_n hx hb dX3_sum_75 rfl (lv_at hl 3 rfl) ?_
          refine fr_get (j := 0) C hP (by omega) (fG_PO adr cs t) rfl (fun w h => List.mem_cons_of_mem _ (inl_X3 w h)) (by decide) rfl (List.mem_cons_of_mem _ mw_2_8) rfl dX3_sum_76 ?_
          refine lv_imul hx hb dX3_sum_79 ?_
          refine lv_topi (fun x4 ex4 => ?_)
          replace h := h x4 ex4
          refine lv_istore (lv' := [(5, .int x4), (4, .int x3), (3, .int x2), (6, .int x1), (0, .ref (adr 1)), (7, .int v7)]) hx hb dX3_sum_80 hl (by decide) rfl (fun ls hl => ?_)
          obtain ⟨x5, ex5⟩ : ∃ y : Int32, y = v7 + 1 := ⟨_, rfl⟩
          replace h := h x5 ex5
          refine lv_iinc (v := x5) (lv' := [(7, .int x5), (5, .int x4), (4, .int x3), (3, .int x2), (6, .int x1), (0, .ref (adr 1))]) hx hb dX3_sum_82 hl (k := 5) rfl (by rw [ex5]; rfl) (by decide) rfl (fun ls hl => ?_)
          refine lv_goto (tgt := 14) hx hb dX3_sum_85 (by decide) ?_
          exact ih x2 x3 x4 x1 x5 t _ _ _ h hP hS (lv_sub hl [5, 3, 2, 1, 4, 0] rfl)

set_option maxHeartbeats 4000000 in
set_option maxRecDepth 100000 in
theorem c_X3_sum (l : Launch) (D : va_G) (adr : Nat → Nat) (cs : Nat → ClassId) {N : Nat} (hN : 53 ≤ N) (t : fcS) (a0 : Int32) (a1 : Int32) (post : Int32 → fcS → Prop) (h : q_X3_sum t a0 a1 post) : Met l yX3_sum wm_X3_sum ({ frames := 0, cells := 0, slots := 0, locals := 0 } : Room) (fcPre D adr cs N t [.ref (adr 1), .int a0, .int a1]) (fQi D adr cs N post) 0 0 (faN adr N) := by
  refine f_enter (cc := cX3_sum) (nL := 8) (ret := some .int) (lv := [(0, .ref (adr 1)), (1, .int a0), (2, .int a1)]) (own := RX3) (by decide) rfl (Nat.le_of_ble_eq_true rfl) rfl rfl ?_
  intro p e s m below meth c ls C hP hS hl
  have hx := C.1.1
  have hb := C.1.2.1
  unfold q_X3_sum at h
  refine lv_iload_n hx hb dX3_sum_0 rfl (lv_at hl 1 rfl) ?_
  refine lv_istore_n (lv' := [(3, .int a0), (0, .ref (adr 1)), (1, .int a0), (2, .int a1)]) hx hb dX3_sum_1 rfl hl (by decide) rfl (fun ls hl => ?_)
  refine lv_iload_n hx hb dX3_sum_2 rfl (lv_at hl 3 rfl) ?_
  refine lv_istore (lv' := [(4, .int a1), (3, .int a0), (0, .ref (adr 1)), (1, .int a0), (2, .int a1)]) hx hb dX3_sum_3 hl (by decide) rfl (fun ls hl => ?_)
  refine lv_iconst (v := 1) hx hb dX3_sum_5 (by decide) ?_
  refine lv_istore (lv' := [(5, .int 1), (4, .int a1), (3, .int a0), (0, .ref (adr 1)), (1, .int a0), (2, .int a1)]) hx hb dX3_sum_6 hl (by decide) rfl (fun ls hl => ?_)
  refine lv_iconst (v := 0) hx hb dX3_sum_8 (by decide) ?_
  refine lv_istore (lv' := [(6, .int 0), (5, .int 1), (4, .int a1), (3, .int a0), (0, .ref (adr 1)), (1, .int a0), (2, .int a1)]) hx hb dX3_sum_9 hl (by decide) rfl (fun ls hl => ?_)
  refine lv_iconst (v := 0) hx hb dX3_sum_11 (by decide) ?_
  refine lv_istore (lv' := [(7, .int 0), (6, .int 0), (5, .int 1), (4, .int a1), (3, .int a0), (0, .ref (adr 1)), (1, .int a0), (2, .int a1)]) hx hb dX3_sum_12 hl (by decide) rfl (fun ls hl => ?_)
  obtain ⟨n9, h⟩ := h
  exact k_X3_sum_14 hN C n9 a0 a1 1 0 0 t _ _ _ h hP hS (lv_sub hl [5, 4, 3, 2, 1, 0] rfl)

/-! X3.difference -/
abbrev wm_X3_difference : List Cond := Cond.code yX3_difference cX3_difference 8 (some .int) :: wsL_law
def q_X3_difference_14 (post : Int32 → fcS → Prop) : Nat → Int32 → Int32 → Int32 → Int32 → Int32 → fcS → Prop
  | 0, _, _, _, _, _, _ => False
  | n + 1, v3, v4, v5, v6, v7, t => (20 ≤ v7 → (post ((v6 + (v3 * v5))) t)) ∧ (¬ 20 ≤ v7 → ((v4 ≤ 0 → (post ((v6 + (v3 * v5))) t)) ∧ (¬ v4 ≤ 0 → ((¬ ((fgi t 1 0) : Int32) = 0) ∧ ((¬ ((fgi t 1 0) : Int32) = 0) ∧ ((¬ ((fgi t 1 0) : Int32) = 0) ∧ (∀ x1 : Int32, x1 = (v6 + ((irm ((((irm v3 ((fgi t 1 0))) + (fgi t 1 0)) - (irm v4 ((fgi t 1 0))))) ((fgi t 1 0))) * v5)) → ((¬ ((fgi t 1 0) : Int32) = 0) ∧ (∀ x2 : Int32, x2 = (v3 / (fgi t 1 0)) → ((¬ ((fgi t 1 0) : Int32) = 0) ∧ (∀ x3 : Int32, x3 = (v4 / (fgi t 1 0)) → (∀ x4 : Int32, x4 = (v5 * (fgi t 1 0)) → (∀ x5 : Int32, x5 = v7 + 1 → (q_X3_difference_14 post n x2 x3 x4 x1 x5 t))))))))))))))
def q_X3_difference (t : fcS) (a0 : Int32) (a1 : Int32) (post : Int32 → fcS → Prop) : Prop := ∃ n0, q_X3_difference_14 post n0 a0 a1 1 0 0 t
set_option maxHeartbeats 4000000 in
set_option maxRecDepth 100000 in
theorem k_X3_difference_14 {D : va_G} {adr : Nat → Nat} {cs : Nat → ClassId} {N : Nat} (hN : 53 ≤ N) {p : Program} {l : Launch} {e : Env} {s : State} {m : MethodId} {args : Array Value} {below : List Frame} {meth : Method} {c : Code} (C : fCx D adr cs N p s m args meth c cX3_difference 8 (some .int) RX3 wm_X3_difference) {post : Int32 → fcS → Prop} : ∀ (n : Nat) (v3 : Int32) (v4 : Int32) (v5 : Int32) (v6 : Int32) (v7 : Int32) (t : fcS) (H : Heap) (locs : List Loc) (ls : Array Slot), q_X3_difference_14 post n v3 v4 v5 v6 v7 t → va_P D vwCl (fwl adr N (fG adr cs t)) H → va_S (faN adr N) s.heap H locs → lv_has ls 8 [(0, .ref (adr 1)), (3, .int v3), (4, .int v4), (5, .int v5), (6, .int v6), (7, .int v7)] → W p l e ({ frames := 0, cells := 0, slots := 0, locals := 0 } : Room) s m args below meth c H locs 0 0 (MQ below (fQi D adr cs N post) args s 0 0 (faN adr N)) (F0 m 14 ls []) := by
  have hx := C.1.1
  have hb := C.1.2.1
  intro n
  induction n with
  | zero => intro v3 v4 v5 v6 v7 t H locs ls h; exact False.elim h
  | succ n ih =>
    intro v3 v4 v5 v6 v7 t H locs ls h hP hS hl
    unfold q_X3_difference_14 at h
    refine lv_iload hx hb dX3_difference_14 (lv_at hl 5 rfl) ?_
    refine lv_bipush (v := 20) hx hb dX3_difference_16 (by decide) ?_
    refine lv_icmp_ge (tgt := 89) hx hb dX3_difference_18 (by decide) (fun c9 => ?_) (fun c9 => ?_)
    · replace h := h.1 c9
      refine lv_iload hx hb dX3_difference_89 (lv_at hl 4 rfl) ?_
      refine lv_iload_n hx hb dX3_difference_91 rfl (lv_at hl 1 rfl) ?_
      refine lv_iload hx hb dX3_difference_92 (lv_at hl 3 rfl) ?_
      refine lv_imul hx hb dX3_difference_94 ?_
      refine lv_iadd hx hb dX3_difference_95 ?_
      exact fr_iret C hP hS h dX3_difference_96
    · replace h := h.2 c9
      refine lv_iload hx hb dX3_difference_21 (lv_at hl 2 rfl) ?_
      refine lv_if_le (tgt := 89) hx hb dX3_difference_23 (by decide) (fun c9 => ?_) (fun c9 => ?_)
      · replace h := h.1 c9
        refine lv_iload hx hb dX3_difference_89 (lv_at hl 4 rfl) ?_
        refine lv_iload_n hx hb dX3_difference_91 rfl (lv_at hl 1 rfl) ?_
        refine lv_iload hx hb dX3_difference_92 (lv_at hl 3 rfl) ?_
        refine lv_imul hx hb dX3_difference_94 ?_
        refine lv_iadd hx hb dX3_difference_95 ?_
        exact fr_iret C hP hS h dX3_difference_96
      · replace h := h.2 c9
        refine lv_iload hx hb dX3_difference_26 (lv_at hl 4 rfl) ?_
        refine lv_iload_n hx hb dX3_difference_28 rfl (lv_at hl 1 rfl) ?_
        refine lv_aload_n hx hb dX3_difference_29 rfl (lv_at hl 0 rfl) ?_
        refine fr_get (j := 0) C hP (by omega) (fG_PO adr cs t) rfl (fun w h => List.mem_cons_of_mem _ (inl_X3 w h)) (by decide) rfl (List.mem_cons_of_mem _ mw_2_8) rfl dX3_difference_30 ?_
        refine lv_irem hx hb dX3_difference_33 h.1 ?_
        replace h := h.2
        refine lv_aload_n hx hb dX3_difference_34 rfl (lv_at hl 0 rfl) ?_
        refine fr_get (j := 0) C hP (by omega) (fG_PO adr cs t) rfl (fun w h => List.mem_cons_of_mem _ (inl_X3 w h)) (by decide) rfl (List.mem_cons_of_mem _ mw_2_8) rfl dX3_difference_35 ?_
        refine lv_iadd hx hb dX3_difference_38 ?_
        refine lv_iload hx hb dX3_difference_39 (lv_at hl 2 rfl) ?_
        refine lv_aload_n hx hb dX3_difference_41 rfl (lv_at hl 0 rfl) ?_
        refine fr_get (j := 0) C hP (by omega) (fG_PO adr cs t) rfl (fun w h => List.mem_cons_of_mem _ (inl_X3 w h)) (by decide) rfl (List.mem_cons_of_mem _ mw_2_8) rfl dX3_difference_42 ?_
        refine lv_irem hx hb dX3_difference_45 h.1 ?_
        replace h := h.2
        refine lv_isub hx hb dX3_difference_46 ?_
        refine lv_aload_n hx hb dX3_difference_47 rfl (lv_at hl 0 rfl) ?_
        refine fr_get (j := 0) C hP (by omega) (fG_PO adr cs t) rfl (fun w h => List.mem_cons_of_mem _ (inl_X3 w h)) (by decide) rfl (List.mem_cons_of_mem _ mw_2_8) rfl dX3_difference_48 ?_
        refine lv_irem hx hb dX3_difference_51 h.1 ?_
        replace h := h.2
        refine lv_iload hx hb dX3_difference_52 (lv_at hl 3 rfl) ?_
        refine lv_imul hx hb dX3_difference_54 ?_
        refine lv_iadd hx hb dX3_difference_55 ?_
        refine lv_topi (fun x1 ex1 => ?_)
        replace h := h x1 ex1
        refine lv_istore (lv' := [(6, .int x1), (0, .ref (adr 1)), (3, .int v3), (4, .int v4), (5, .int v5), (7, .int v7)]) hx hb dX3_difference_56 hl (by decide) rfl (fun ls hl => ?_)
        refine lv_iload_n hx hb dX3_difference_58 rfl (lv_at hl 2 rfl) ?_
        refine lv_aload_n hx hb dX3_difference_59 rfl (lv_at hl 1 rfl) ?_
        refine fr_get (j := 0) C hP (by omega) (fG_PO adr cs t) rfl (fun w h => List.mem_cons_of_mem _ (inl_X3 w h)) (by decide) rfl (List.mem_cons_of_mem _ mw_2_8) rfl dX3_difference_60 ?_
        refine lv_idiv hx hb dX3_difference_63 h.1 ?_
        replace h := h.2
        refine lv_topi (fun x2 ex2 => ?_)
        replace h := h x2 ex2
        refine lv_istore_n (lv' := [(3, .int x2), (6, .int x1), (0, .ref (adr 1)), (4, .int v4), (5, .int v5), (7, .int v7)]) hx hb dX3_difference_64 rfl hl (by decide) rfl (fun ls hl => ?_)
        refine lv_iload hx hb dX3_difference_65 (lv_at hl 3 rfl) ?_
        refine lv_aload_n hx hb dX3_difference_67 rfl (lv_at hl 2 rfl) ?_
        refine fr_get (j := 0) C hP (by omega) (fG_PO adr cs t) rfl (fun w h => List.mem_cons_of_mem _ (inl_X3 w h)) (by decide) rfl (List.mem_cons_of_mem _ mw_2_8) rfl dX3_difference_68 ?_
        refine lv_idiv hx hb dX3_difference_71 h.1 ?_
        replace h := h.2
        refine lv_topi (fun x3 ex3 => ?_)
        replace h := h x3 ex3
        refine lv_istore (lv' := [(4, .int x3), (3, .int x2), (6, .int x1), (0, .ref (adr 1)), (5, .int v5), (7, .int v7)]) hx hb dX3_difference_72 hl (by decide) rfl (fun ls hl => ?_)
        refine lv_iload hx hb dX3_difference_74 (lv_at hl 4 rfl) ?_
        refine lv_aload_n hx hb dX3_difference_76 rfl (lv_at hl 3 rfl) ?_
        refine fr_get (j := 0) C hP (by omega) (fG_PO adr cs t) rfl (fun w h => List.mem_cons_of_mem _ (inl_X3 w h)) (by decide) rfl (List.mem_cons_of_mem _ mw_2_8) rfl dX3_difference_77 ?_
        refine lv_imul hx hb dX3_difference_80 ?_
        refine lv_topi (fun x4 ex4 => ?_)
        replace h := h x4 ex4
        refine lv_istore (lv' := [(5, .int x4), (4, .int x3), (3, .int x2), (6, .int x1), (0, .ref (adr 1)), (7, .int v7)]) hx hb dX3_difference_81 hl (by decide) rfl (fun ls hl => ?_)
        obtain ⟨x5, ex5⟩ : ∃ y : Int32, y = v7 + 1 := ⟨_, rfl⟩
        replace h := h x5 ex5
        refine lv_iinc (v := x5) (lv' := [(7, .int x5), (5, .int x4), (4, .int x3), (3, .int x2), (6, .int x1), (0, .ref (adr 1))]) hx hb dX3_difference_83 hl (k := 5) rfl (by rw [ex5]; rfl) (by decide) rfl (fun ls hl => ?_)
        refine lv_goto (tgt := 14) hx hb dX3_difference_86 (by decide) ?_
        exact ih x2 x3 x4 x1 x5 t _ _ _ h hP hS (lv_sub hl [5, 3, 2, 1, 4, 0] rfl)

set_option maxHeartbeats 4000000 in
set_option maxRecDepth 100000 in
theorem c_X3_difference (l : Launch) (D : va_G) (adr : Nat → Nat) (cs : Nat → ClassId) {N : Nat} (hN : 53 ≤ N) (t : fcS) (a0 : Int32) (a1 : Int32) (post : Int32 → fcS → Prop) (h : q_X3_difference t a0 a1 post) : Met l yX3_difference wm_X3_difference ({ frames := 0, cells := 0, slots := 0, locals := 0 } : Room) (fcPre D adr cs N t [.ref (adr 1), .int a0, .int a1]) (fQi D adr cs N post) 0 0 (faN adr N) := by
  refine f_enter (cc := cX3_difference) (nL := 8) (ret := some .int) (lv := [(0, .ref (adr 1)), (1, .int a0), (2, .int a1)]) (own := RX3) (by decide) rfl (Nat.le_of_ble_eq_true rfl) rfl rfl ?_
  intro p e s m below meth c ls C hP hS hl
  have hx := C.1.1
  have hb := C.1.2.1
  unfold q_X3_difference at h
  refine lv_iload_n hx hb dX3_difference_0 rfl (lv_at hl 1 rfl) ?_
  refine lv_istore_n (lv' := [(3, .int a0), (0, .ref (adr 1)), (1, .int a0), (2, .int a1)]) hx hb dX3_difference_1 rfl hl (by decide) rfl (fun ls hl => ?_)
  refine lv_iload_n hx hb dX3_difference_2 rfl (lv_at hl 3 rfl) ?_
  refine lv_istore (lv' := [(4, .int a1), (3, .int a0), (0, .ref (adr 1)), (1, .int a0), (2, .int a1)]) hx hb dX3_difference_3 hl (by decide) rfl (fun ls hl => ?_)
  refine lv_iconst (v := 1) hx hb dX3_difference_5 (by decide) ?_
  refine lv_istore (lv' := [(5, .int 1), (4, .int a1), (3, .int a0), (0, .ref (adr 1)), (1, .int a0), (2, .int a1)]) hx hb dX3_difference_6 hl (by decide) rfl (fun ls hl => ?_)
  refine lv_iconst (v := 0) hx hb dX3_difference_8 (by decide) ?_
  refine lv_istore (lv' := [(6, .int 0), (5, .int 1), (4, .int a1), (3, .int a0), (0, .ref (adr 1)), (1, .int a0), (2, .int a1)]) hx hb dX3_difference_9 hl (by decide) rfl (fun ls hl => ?_)
  refine lv_iconst (v := 0) hx hb dX3_difference_11 (by decide) ?_
  refine lv_istore (lv' := [(7, .int 0), (6, .int 0), (5, .int 1), (4, .int a1), (3, .int a0), (0, .ref (adr 1)), (1, .int a0), (2, .int a1)]) hx hb dX3_difference_12 hl (by decide) rfl (fun ls hl => ?_)
  obtain ⟨n9, h⟩ := h
  exact k_X3_difference_14 hN C n9 a0 a1 1 0 0 t _ _ _ h hP hS (lv_sub hl [5, 4, 3, 2, 1, 0] rfl)

/-! X3.scaled -/
abbrev wm_X3_scaled : List Cond := Cond.code yX3_scaled cX3_scaled 7 (some .int) :: wsL_law
def q_X3_scaled_19 (post : Int32 → fcS → Prop) : Nat → Int32 → Int32 → Int32 → Int32 → Int32 → fcS → Prop
  | 0, _, _, _, _, _, _ => False
  | n + 1, v2, v3, v4, v5, v6, t => (20 ≤ v6 → (post v5 t)) ∧ (¬ 20 ≤ v6 → ((v3 ≤ 0 → (post v5 t)) ∧ (¬ v3 ≤ 0 → ((¬ ((fgi t 1 0) : Int32) = 0) ∧ ((¬ ((fgi t 1 0) : Int32) = 0) ∧ (∀ x1 : Int32, x1 = (v5 + ((irm (((irm v3 ((fgi t 1 0))) * v2)) ((fgi t 1 0))) * v4)) → ((¬ ((fgi t 1 0) : Int32) = 0) ∧ (∀ x2 : Int32, x2 = (v3 / (fgi t 1 0)) → (∀ x3 : Int32, x3 = (v4 * (fgi t 1 0)) → (∀ x4 : Int32, x4 = v6 + 1 → (q_X3_scaled_19 post n v2 x2 x3 x1 x4 t)))))))))))
def q_X3_scaled (t : fcS) (a0 : Int32) (a1 : Int32) (post : Int32 → fcS → Prop) : Prop := (¬ a1 = 0 → (∃ n0, q_X3_scaled_19 post n0 a1 a0 1 0 0 t)) ∧ (a1 = 0 → (∃ n0, q_X3_scaled_19 post n0 a1 0 1 0 0 t))
set_option maxHeartbeats 4000000 in
set_option maxRecDepth 100000 in
theorem k_X3_scaled_19 {D : va_G} {adr : Nat → Nat} {cs : Nat → ClassId} {N : Nat} (hN : 53 ≤ N) {p : Program} {l : Launch} {e : Env} {s : State} {m : MethodId} {args : Array Value} {below : List Frame} {meth : Method} {c : Code} (C : fCx D adr cs N p s m args meth c cX3_scaled 7 (some .int) RX3 wm_X3_scaled) {post : Int32 → fcS → Prop} : ∀ (n : Nat) (v2 : Int32) (v3 : Int32) (v4 : Int32) (v5 : Int32) (v6 : Int32) (t : fcS) (H : Heap) (locs : List Loc) (ls : Array Slot), q_X3_scaled_19 post n v2 v3 v4 v5 v6 t → va_P D vwCl (fwl adr N (fG adr cs t)) H → va_S (faN adr N) s.heap H locs → lv_has ls 7 [(0, .ref (adr 1)), (2, .int v2), (3, .int v3), (4, .int v4), (5, .int v5), (6, .int v6)] → W p l e ({ frames := 0, cells := 0, slots := 0, locals := 0 } : Room) s m args below meth c H locs 0 0 (MQ below (fQi D adr cs N post) args s 0 0 (faN adr N)) (F0 m 19 ls []) := by
  have hx := C.1.1
  have hb := C.1.2.1
  intro n
  induction n with
  | zero => intro v2 v3 v4 v5 v6 t H locs ls h; exact False.elim h
  | succ n ih =>
    intro v2 v3 v4 v5 v6 t H locs ls h hP hS hl
    unfold q_X3_scaled_19 at h
    refine lv_iload hx hb dX3_scaled_19 (lv_at hl 5 rfl) ?_
    refine lv_bipush (v := 20) hx hb dX3_scaled_21 (by decide) ?_
    refine lv_icmp_ge (tgt := 73) hx hb dX3_scaled_23 (by decide) (fun c9 => ?_) (fun c9 => ?_)
    · replace h := h.1 c9
      refine lv_iload hx hb dX3_scaled_73 (lv_at hl 4 rfl) ?_
      exact fr_iret C hP hS h dX3_scaled_75
    · replace h := h.2 c9
      refine lv_iload_n hx hb dX3_scaled_26 rfl (lv_at hl 2 rfl) ?_
      refine lv_if_le (tgt := 73) hx hb dX3_scaled_27 (by decide) (fun c9 => ?_) (fun c9 => ?_)
      · replace h := h.1 c9
        refine lv_iload hx hb dX3_scaled_73 (lv_at hl 4 rfl) ?_
        exact fr_iret C hP hS h dX3_scaled_75
      · replace h := h.2 c9
        refine lv_iload hx hb dX3_scaled_30 (lv_at hl 4 rfl) ?_
        refine lv_iload_n hx hb dX3_scaled_32 rfl (lv_at hl 2 rfl) ?_
        refine lv_aload_n hx hb dX3_scaled_33 rfl (lv_at hl 0 rfl) ?_
        refine fr_get (j := 0) C hP (by omega) (fG_PO adr cs t) rfl (fun w h => List.mem_cons_of_mem _ (inl_X3 w h)) (by decide) rfl (List.mem_cons_of_mem _ mw_2_8) rfl dX3_scaled_34 ?_
        refine lv_irem hx hb dX3_scaled_37 h.1 ?_
        replace h := h.2
        refine lv_iload_n hx hb dX3_scaled_38 rfl (lv_at hl 1 rfl) ?_
        refine lv_imul hx hb dX3_scaled_39 ?_
        refine lv_aload_n hx hb dX3_scaled_40 rfl (lv_at hl 0 rfl) ?_
        refine fr_get (j := 0) C hP (by omega) (fG_PO adr cs t) rfl (fun w h => List.mem_cons_of_mem _ (inl_X3 w h)) (by decide) rfl (List.mem_cons_of_mem _ mw_2_8) rfl dX3_scaled_41 ?_
        refine lv_irem hx hb dX3_scaled_44 h.1 ?_
        replace h := h.2
        refine lv_iload hx hb dX3_scaled_45 (lv_at hl 3 rfl) ?_
        refine lv_imul hx hb dX3_scaled_47 ?_
        refine lv_iadd hx hb dX3_scaled_48 ?_
        refine lv_topi (fun x1 ex1 => ?_)
        replace h := h x1 ex1
        refine lv_istore (lv' := [(5, .int x1), (0, .ref (adr 1)), (2, .int v2), (3, .int v3), (4, .int v4), (6, .int v6)]) hx hb dX3_scaled_49 hl (by decide) rfl (fun ls hl => ?_)
        refine lv_iload_n hx hb dX3_scaled_51 rfl (lv_at hl 3 rfl) ?_
        refine lv_aload_n hx hb dX3_scaled_52 rfl (lv_at hl 1 rfl) ?_
        refine fr_get (j := 0) C hP (by omega) (fG_PO adr cs t) rfl (fun w h => List.mem_cons_of_mem _ (inl_X3 w h)) (by decide) rfl (List.mem_cons_of_mem _ mw_2_8) rfl dX3_scaled_53 ?_
        refine lv_idiv hx hb dX3_scaled_56 h.1 ?_
        replace h := h.2
        refine lv_topi (fun x2 ex2 => ?_)
        replace h := h x2 ex2
        refine lv_istore_n (lv' := [(3, .int x2), (5, .int x1), (0, .ref (adr 1)), (2, .int v2), (4, .int v4), (6, .int v6)]) hx hb dX3_scaled_57 rfl hl (by decide) rfl (fun ls hl => ?_)
        refine lv_iload hx hb dX3_scaled_58 (lv_at hl 4 rfl) ?_
        refine lv_aload_n hx hb dX3_scaled_60 rfl (lv_at hl 2 rfl) ?_
        refine fr_get (j := 0) C hP (by omega) (fG_PO adr cs t) rfl (fun w h => List.mem_cons_of_mem _ (inl_X3 w h)) (by decide) rfl (List.mem_cons_of_mem _ mw_2_8) rfl dX3_scaled_61 ?_
        refine lv_imul hx hb dX3_scaled_64 ?_
        refine lv_topi (fun x3 ex3 => ?_)
        replace h := h x3 ex3
        refine lv_istore (lv' := [(4, .int x3), (3, .int x2), (5, .int x1), (0, .ref (adr 1)), (2, .int v2), (6, .int v6)]) hx hb dX3_scaled_65 hl (by decide) rfl (fun ls hl => ?_)
        obtain ⟨x4, ex4⟩ : ∃ y : Int32, y = v6 + 1 := ⟨_, rfl⟩
        replace h := h x4 ex4
        refine lv_iinc (v := x4) (lv' := [(6, .int x4), (4, .int x3), (3, .int x2), (5, .int x1), (0, .ref (adr 1)), (2, .int v2)]) hx hb dX3_scaled_67 hl (k := 5) rfl (by rw [ex4]; rfl) (by decide) rfl (fun ls hl => ?_)
        refine lv_goto (tgt := 19) hx hb dX3_scaled_70 (by decide) ?_
        exact ih v2 x2 x3 x1 x4 t _ _ _ h hP hS (lv_sub hl [4, 5, 2, 1, 3, 0] rfl)

set_option maxHeartbeats 4000000 in
set_option maxRecDepth 100000 in
theorem c_X3_scaled (l : Launch) (D : va_G) (adr : Nat → Nat) (cs : Nat → ClassId) {N : Nat} (hN : 53 ≤ N) (t : fcS) (a0 : Int32) (a1 : Int32) (post : Int32 → fcS → Prop) (h : q_X3_scaled t a0 a1 post) : Met l yX3_scaled wm_X3_scaled ({ frames := 0, cells := 0, slots := 0, locals := 0 } : Room) (fcPre D adr cs N t [.ref (adr 1), .int a0, .int a1]) (fQi D adr cs N post) 0 0 (faN adr N) := by
  refine f_enter (cc := cX3_scaled) (nL := 7) (ret := some .int) (lv := [(0, .ref (adr 1)), (1, .int a0), (2, .int a1)]) (own := RX3) (by decide) rfl (Nat.le_of_ble_eq_true rfl) rfl rfl ?_
  intro p e s m below meth c ls C hP hS hl
  have hx := C.1.1
  have hb := C.1.2.1
  unfold q_X3_scaled at h
  refine lv_iload_n hx hb dX3_scaled_0 rfl (lv_at hl 2 rfl) ?_
  refine lv_if_ne (tgt := 8) hx hb dX3_scaled_1 (by decide) (fun c9 => ?_) (fun c9 => ?_)
  · replace h := h.1 c9
    refine lv_iload_n hx hb dX3_scaled_8 rfl (lv_at hl 1 rfl) ?_
    refine lv_istore_n (lv' := [(3, .int a0), (0, .ref (adr 1)), (1, .int a0), (2, .int a1)]) hx hb dX3_scaled_9 rfl hl (by decide) rfl (fun ls hl => ?_)
    refine lv_iconst (v := 1) hx hb dX3_scaled_10 (by decide) ?_
    refine lv_istore (lv' := [(4, .int 1), (3, .int a0), (0, .ref (adr 1)), (1, .int a0), (2, .int a1)]) hx hb dX3_scaled_11 hl (by decide) rfl (fun ls hl => ?_)
    refine lv_iconst (v := 0) hx hb dX3_scaled_13 (by decide) ?_
    refine lv_istore (lv' := [(5, .int 0), (4, .int 1), (3, .int a0), (0, .ref (adr 1)), (1, .int a0), (2, .int a1)]) hx hb dX3_scaled_14 hl (by decide) rfl (fun ls hl => ?_)
    refine lv_iconst (v := 0) hx hb dX3_scaled_16 (by decide) ?_
    refine lv_istore (lv' := [(6, .int 0), (5, .int 0), (4, .int 1), (3, .int a0), (0, .ref (adr 1)), (1, .int a0), (2, .int a1)]) hx hb dX3_scaled_17 hl (by decide) rfl (fun ls hl => ?_)
    obtain ⟨n9, h⟩ := h
    exact k_X3_scaled_19 hN C n9 a1 a0 1 0 0 t _ _ _ h hP hS (lv_sub hl [4, 6, 3, 2, 1, 0] rfl)
  · replace h := h.2 c9
    refine lv_iconst (v := 0) hx hb dX3_scaled_4 (by decide) ?_
    refine lv_goto (tgt := 9) hx hb dX3_scaled_5 (by decide) ?_
    refine lv_istore_n (lv' := [(3, .int 0), (0, .ref (adr 1)), (1, .int a0), (2, .int a1)]) hx hb dX3_scaled_9 rfl hl (by decide) rfl (fun ls hl => ?_)
    refine lv_iconst (v := 1) hx hb dX3_scaled_10 (by decide) ?_
    refine lv_istore (lv' := [(4, .int 1), (3, .int 0), (0, .ref (adr 1)), (1, .int a0), (2, .int a1)]) hx hb dX3_scaled_11 hl (by decide) rfl (fun ls hl => ?_)
    refine lv_iconst (v := 0) hx hb dX3_scaled_13 (by decide) ?_
    refine lv_istore (lv' := [(5, .int 0), (4, .int 1), (3, .int 0), (0, .ref (adr 1)), (1, .int a0), (2, .int a1)]) hx hb dX3_scaled_14 hl (by decide) rfl (fun ls hl => ?_)
    refine lv_iconst (v := 0) hx hb dX3_scaled_16 (by decide) ?_
    refine lv_istore (lv' := [(6, .int 0), (5, .int 0), (4, .int 1), (3, .int 0), (0, .ref (adr 1)), (1, .int a0), (2, .int a1)]) hx hb dX3_scaled_17 hl (by decide) rfl (fun ls hl => ?_)
    obtain ⟨n9, h⟩ := h
    exact k_X3_scaled_19 hN C n9 a1 0 1 0 0 t _ _ _ h hP hS (lv_sub hl [4, 6, 3, 2, 1, 0] rfl)

/-! X3.product -/
abbrev wm_X3_product : List Cond := Cond.code yX3_product cX3_product 7 (some .int) :: wsL_law
def q_X3_product_11 (post : Int32 → fcS → Prop) : Nat → Int32 → Int32 → Int32 → Int32 → Int32 → fcS → Prop
  | 0, _, _, _, _, _, _ => False
  | n + 1, v1, v3, v4, v5, v6, t => (20 ≤ v6 → (post v5 t)) ∧ (¬ 20 ≤ v6 → ((v3 ≤ 0 → (post v5 t)) ∧ (¬ v3 ≤ 0 → ((¬ ((fgi t 1 0) : Int32) = 0) ∧ (q_X3_scaled t v1 ((irm v3 ((fgi t 1 0)))) (fun (r2 : Int32) (t1 : fcS) => q_X3_sum t1 v5 ((r2 * v4)) (fun (r4 : Int32) (t3 : fcS) => (¬ ((fgi t3 1 0) : Int32) = 0) ∧ (∀ x5 : Int32, x5 = (v3 / (fgi t3 1 0)) → (∀ x6 : Int32, x6 = (v4 * (fgi t3 1 0)) → (∀ x7 : Int32, x7 = v6 + 1 → (q_X3_product_11 post n v1 x5 x6 r4 x7 t3)))))))))))
def q_X3_product (t : fcS) (a0 : Int32) (a1 : Int32) (post : Int32 → fcS → Prop) : Prop := ∃ n0, q_X3_product_11 post n0 a0 a1 1 0 0 t
set_option maxHeartbeats 4000000 in
set_option maxRecDepth 100000 in
theorem k_X3_product_11 {D : va_G} {adr : Nat → Nat} {cs : Nat → ClassId} {N : Nat} (hN : 53 ≤ N) {p : Program} {l : Launch} {e : Env} {s : State} {m : MethodId} {args : Array Value} {below : List Frame} {meth : Method} {c : Code} (C : fCx D adr cs N p s m args meth c cX3_product 7 (some .int) RX3 wm_X3_product) {post : Int32 → fcS → Prop} : ∀ (n : Nat) (v1 : Int32) (v3 : Int32) (v4 : Int32) (v5 : Int32) (v6 : Int32) (t : fcS) (H : Heap) (locs : List Loc) (ls : Array Slot), q_X3_product_11 post n v1 v3 v4 v5 v6 t → va_P D vwCl (fwl adr N (fG adr cs t)) H → va_S (faN adr N) s.heap H locs → lv_has ls 7 [(0, .ref (adr 1)), (1, .int v1), (3, .int v3), (4, .int v4), (5, .int v5), (6, .int v6)] → W p l e ({ frames := 1, cells := 0, slots := 0, locals := 27 } : Room) s m args below meth c H locs 0 0 (MQ below (fQi D adr cs N post) args s 0 0 (faN adr N)) (F0 m 11 ls []) := by
  have hx := C.1.1
  have hb := C.1.2.1
  intro n
  induction n with
  | zero => intro v1 v3 v4 v5 v6 t H locs ls h; exact False.elim h
  | succ n ih =>
    intro v1 v3 v4 v5 v6 t H locs ls h hP hS hl
    unfold q_X3_product_11 at h
    refine lv_iload hx hb dX3_product_11 (lv_at hl 5 rfl) ?_
    refine lv_bipush (v := 20) hx hb dX3_product_13 (by decide) ?_
    refine lv_icmp_ge (tgt := 66) hx hb dX3_product_15 (by decide) (fun c9 => ?_) (fun c9 => ?_)
    · replace h := h.1 c9
      refine lv_iload hx hb dX3_product_66 (lv_at hl 4 rfl) ?_
      exact fr_iret C hP hS h dX3_product_68
    · replace h := h.2 c9
      refine lv_iload_n hx hb dX3_product_18 rfl (lv_at hl 2 rfl) ?_
      refine lv_if_le (tgt := 66) hx hb dX3_product_19 (by decide) (fun c9 => ?_) (fun c9 => ?_)
      · replace h := h.1 c9
        refine lv_iload hx hb dX3_product_66 (lv_at hl 4 rfl) ?_
        exact fr_iret C hP hS h dX3_product_68
      · replace h := h.2 c9
        refine lv_aload_n hx hb dX3_product_22 rfl (lv_at hl 0 rfl) ?_
        refine lv_iload hx hb dX3_product_23 (lv_at hl 4 rfl) ?_
        refine lv_aload_n hx hb dX3_product_25 rfl (lv_at hl 0 rfl) ?_
        refine lv_iload_n hx hb dX3_product_26 rfl (lv_at hl 1 rfl) ?_
        refine lv_iload_n hx hb dX3_product_27 rfl (lv_at hl 2 rfl) ?_
        refine lv_aload_n hx hb dX3_product_28 rfl (lv_at hl 0 rfl) ?_
        refine fr_get (j := 0) C hP (by omega) (fG_PO adr cs t) rfl (fun w h => List.mem_cons_of_mem _ (inl_X3 w h)) (by decide) rfl (List.mem_cons_of_mem _ mw_2_8) rfl dX3_product_29 ?_
        refine lv_irem hx hb dX3_product_32 h.1 ?_
        replace h := h.2
        refine fr_ci (fr_runV (n := 2) (rest := [.int v5, .ref (adr 1)]) C (c_X3_scaled l D adr cs hN t v1 ((irm v3 ((fgi t 1 0)))) _ h) hP hS (by omega) (fG_PO adr cs t) rfl (fgV mw_5_20 mw_5_21 mw_5_22 mw_1_14 mw_5_23) rfl rfl rfl (by decide +kernel) ⟨Nat.le_of_ble_eq_true rfl, Nat.le_of_ble_eq_true rfl⟩ rfl hl.1 rfl (Nat.le_of_ble_eq_true rfl) dX3_product_33) hS (fun r2 t1 H locs h hP hS => ?_)
        refine lv_iload hx hb dX3_product_36 (lv_at hl 3 rfl) ?_
        refine lv_imul hx hb dX3_product_38 ?_
        refine fr_ci (fr_runV (n := 2) (rest := []) C (c_X3_sum l D adr cs hN t1 v5 ((r2 * v4)) _ h) hP hS (by omega) (fG_PO adr cs t1) rfl (fgV mw_6_14 mw_6_15 mw_6_16 mw_1_14 mw_6_17) rfl rfl rfl (by decide +kernel) ⟨Nat.le_of_ble_eq_true rfl, Nat.le_of_ble_eq_true rfl⟩ rfl hl.1 rfl (Nat.le_of_ble_eq_true rfl) dX3_product_39) hS (fun r4 t3 H locs h hP hS => ?_)
        refine lv_istore (lv' := [(5, .int r4), (0, .ref (adr 1)), (1, .int v1), (3, .int v3), (4, .int v4), (6, .int v6)]) hx hb dX3_product_42 hl (by decide) rfl (fun ls hl => ?_)
        refine lv_iload_n hx hb dX3_product_44 rfl (lv_at hl 3 rfl) ?_
        refine lv_aload_n hx hb dX3_product_45 rfl (lv_at hl 1 rfl) ?_
        refine fr_get (j := 0) C hP (by omega) (fG_PO adr cs t3) rfl (fun w h => List.mem_cons_of_mem _ (inl_X3 w h)) (by decide) rfl (List.mem_cons_of_mem _ mw_2_8) rfl dX3_product_46 ?_
        refine lv_idiv hx hb dX3_product_49 h.1 ?_
        replace h := h.2
        refine lv_topi (fun x5 ex5 => ?_)
        replace h := h x5 ex5
        refine lv_istore_n (lv' := [(3, .int x5), (5, .int r4), (0, .ref (adr 1)), (1, .int v1), (4, .int v4), (6, .int v6)]) hx hb dX3_product_50 rfl hl (by decide) rfl (fun ls hl => ?_)
        refine lv_iload hx hb dX3_product_51 (lv_at hl 4 rfl) ?_
        refine lv_aload_n hx hb dX3_product_53 rfl (lv_at hl 2 rfl) ?_
        refine fr_get (j := 0) C hP (by omega) (fG_PO adr cs t3) rfl (fun w h => List.mem_cons_of_mem _ (inl_X3 w h)) (by decide) rfl (List.mem_cons_of_mem _ mw_2_8) rfl dX3_product_54 ?_
        refine lv_imul hx hb dX3_product_57 ?_
        refine lv_topi (fun x6 ex6 => ?_)
        replace h := h x6 ex6
        refine lv_istore (lv' := [(4, .int x6), (3, .int x5), (5, .int r4), (0, .ref (adr 1)), (1, .int v1), (6, .int v6)]) hx hb dX3_product_58 hl (by decide) rfl (fun ls hl => ?_)
        obtain ⟨x7, ex7⟩ : ∃ y : Int32, y = v6 + 1 := ⟨_, rfl⟩
        replace h := h x7 ex7
        refine lv_iinc (v := x7) (lv' := [(6, .int x7), (4, .int x6), (3, .int x5), (5, .int r4), (0, .ref (adr 1)), (1, .int v1)]) hx hb dX3_product_60 hl (k := 5) rfl (by rw [ex7]; rfl) (by decide) rfl (fun ls hl => ?_)
        refine lv_goto (tgt := 11) hx hb dX3_product_63 (by decide) ?_
        exact ih v1 x5 x6 r4 x7 t3 _ _ _ h hP hS (lv_sub hl [4, 5, 2, 1, 3, 0] rfl)

set_option maxHeartbeats 4000000 in
set_option maxRecDepth 100000 in
theorem c_X3_product (l : Launch) (D : va_G) (adr : Nat → Nat) (cs : Nat → ClassId) {N : Nat} (hN : 53 ≤ N) (t : fcS) (a0 : Int32) (a1 : Int32) (post : Int32 → fcS → Prop) (h : q_X3_product t a0 a1 post) : Met l yX3_product wm_X3_product ({ frames := 1, cells := 0, slots := 0, locals := 27 } : Room) (fcPre D adr cs N t [.ref (adr 1), .int a0, .int a1]) (fQi D adr cs N post) 0 0 (faN adr N) := by
  refine f_enter (cc := cX3_product) (nL := 7) (ret := some .int) (lv := [(0, .ref (adr 1)), (1, .int a0), (2, .int a1)]) (own := RX3) (by decide) rfl (Nat.le_of_ble_eq_true rfl) rfl rfl ?_
  intro p e s m below meth c ls C hP hS hl
  have hx := C.1.1
  have hb := C.1.2.1
  unfold q_X3_product at h
  refine lv_iload_n hx hb dX3_product_0 rfl (lv_at hl 2 rfl) ?_
  refine lv_istore_n (lv' := [(3, .int a1), (0, .ref (adr 1)), (1, .int a0), (2, .int a1)]) hx hb dX3_product_1 rfl hl (by decide) rfl (fun ls hl => ?_)
  refine lv_iconst (v := 1) hx hb dX3_product_2 (by decide) ?_
  refine lv_istore (lv' := [(4, .int 1), (3, .int a1), (0, .ref (adr 1)), (1, .int a0), (2, .int a1)]) hx hb dX3_product_3 hl (by decide) rfl (fun ls hl => ?_)
  refine lv_iconst (v := 0) hx hb dX3_product_5 (by decide) ?_
  refine lv_istore (lv' := [(5, .int 0), (4, .int 1), (3, .int a1), (0, .ref (adr 1)), (1, .int a0), (2, .int a1)]) hx hb dX3_product_6 hl (by decide) rfl (fun ls hl => ?_)
  refine lv_iconst (v := 0) hx hb dX3_product_8 (by decide) ?_
  refine lv_istore (lv' := [(6, .int 0), (5, .int 0), (4, .int 1), (3, .int a1), (0, .ref (adr 1)), (1, .int a0), (2, .int a1)]) hx hb dX3_product_9 hl (by decide) rfl (fun ls hl => ?_)
  obtain ⟨n9, h⟩ := h
  exact k_X3_product_11 hN C n9 a0 a1 1 0 0 t _ _ _ h hP hS (lv_sub hl [4, 5, 3, 2, 1, 0] rfl)

/-! X3.inverse -/
abbrev wm_X3_inverse : List Cond := Cond.code yX3_inverse cX3_inverse 3 (some .int) :: wsL_law
def q_X3_inverse_2 (post : Int32 → fcS → Prop) : Nat → Int32 → Int32 → fcS → Prop
  | 0, _, _, _ => False
  | n + 1, v1, v2, t => ((fgi t 1 0) ≤ v2 → (post 0 t)) ∧ (¬ (fgi t 1 0) ≤ v2 → ((¬ ((fgi t 1 0) : Int32) = 0) ∧ ((¬ (irm ((v1 * v2)) ((fgi t 1 0))) = 1 → (∀ x1 : Int32, x1 = v2 + 1 → (q_X3_inverse_2 post n v1 x1 t))) ∧ ((irm ((v1 * v2)) ((fgi t 1 0))) = 1 → (post v2 t)))))
def q_X3_inverse (t : fcS) (a0 : Int32) (post : Int32 → fcS → Prop) : Prop := ∃ n0, q_X3_inverse_2 post n0 a0 1 t
set_option maxHeartbeats 4000000 in
set_option maxRecDepth 100000 in
theorem k_X3_inverse_2 {D : va_G} {adr : Nat → Nat} {cs : Nat → ClassId} {N : Nat} (hN : 53 ≤ N) {p : Program} {l : Launch} {e : Env} {s : State} {m : MethodId} {args : Array Value} {below : List Frame} {meth : Method} {c : Code} (C : fCx D adr cs N p s m args meth c cX3_inverse 3 (some .int) RX3 wm_X3_inverse) {post : Int32 → fcS → Prop} : ∀ (n : Nat) (v1 : Int32) (v2 : Int32) (t : fcS) (H : Heap) (locs : List Loc) (ls : Array Slot), q_X3_inverse_2 post n v1 v2 t → va_P D vwCl (fwl adr N (fG adr cs t)) H → va_S (faN adr N) s.heap H locs → lv_has ls 3 [(0, .ref (adr 1)), (1, .int v1), (2, .int v2)] → W p l e ({ frames := 0, cells := 0, slots := 0, locals := 0 } : Room) s m args below meth c H locs 0 0 (MQ below (fQi D adr cs N post) args s 0 0 (faN adr N)) (F0 m 2 ls []) := by
  have hx := C.1.1
  have hb := C.1.2.1
  intro n
  induction n with
  | zero => intro v1 v2 t H locs ls h; exact False.elim h
  | succ n ih =>
    intro v1 v2 t H locs ls h hP hS hl
    unfold q_X3_inverse_2 at h
    refine lv_iload_n hx hb dX3_inverse_2 rfl (lv_at hl 2 rfl) ?_
    refine lv_aload_n hx hb dX3_inverse_3 rfl (lv_at hl 0 rfl) ?_
    refine fr_get (j := 0) C hP (by omega) (fG_PO adr cs t) rfl (fun w h => List.mem_cons_of_mem _ (inl_X3 w h)) (by decide) rfl (List.mem_cons_of_mem _ mw_2_8) rfl dX3_inverse_4 ?_
    refine lv_icmp_ge (tgt := 30) hx hb dX3_inverse_7 (by decide) (fun c9 => ?_) (fun c9 => ?_)
    · replace h := h.1 c9
      refine lv_iconst (v := 0) hx hb dX3_inverse_30 (by decide) ?_
      exact fr_iret C hP hS h dX3_inverse_31
    · replace h := h.2 c9
      refine lv_iload_n hx hb dX3_inverse_10 rfl (lv_at hl 1 rfl) ?_
      refine lv_iload_n hx hb dX3_inverse_11 rfl (lv_at hl 2 rfl) ?_
      refine lv_imul hx hb dX3_inverse_12 ?_
      refine lv_aload_n hx hb dX3_inverse_13 rfl (lv_at hl 0 rfl) ?_
      refine fr_get (j := 0) C hP (by omega) (fG_PO adr cs t) rfl (fun w h => List.mem_cons_of_mem _ (inl_X3 w h)) (by decide) rfl (List.mem_cons_of_mem _ mw_2_8) rfl dX3_inverse_14 ?_
      refine lv_irem hx hb dX3_inverse_17 h.1 ?_
      replace h := h.2
      refine lv_iconst (v := 1) hx hb dX3_inverse_18 (by decide) ?_
      refine lv_icmp_ne (tgt := 24) hx hb dX3_inverse_19 (by decide) (fun c9 => ?_) (fun c9 => ?_)
      · replace h := h.1 c9
        obtain ⟨x1, ex1⟩ : ∃ y : Int32, y = v2 + 1 := ⟨_, rfl⟩
        replace h := h x1 ex1
        refine lv_iinc (v := x1) (lv' := [(2, .int x1), (0, .ref (adr 1)), (1, .int v1)]) hx hb dX3_inverse_24 hl (k := 2) rfl (by rw [ex1]; rfl) (by decide) rfl (fun ls hl => ?_)
        refine lv_goto (tgt := 2) hx hb dX3_inverse_27 (by decide) ?_
        exact ih v1 x1 t _ _ _ h hP hS (lv_sub hl [1, 2, 0] rfl)
      · replace h := h.2 c9
        refine lv_iload_n hx hb dX3_inverse_22 rfl (lv_at hl 2 rfl) ?_
        exact fr_iret C hP hS h dX3_inverse_23

set_option maxHeartbeats 4000000 in
set_option maxRecDepth 100000 in
theorem c_X3_inverse (l : Launch) (D : va_G) (adr : Nat → Nat) (cs : Nat → ClassId) {N : Nat} (hN : 53 ≤ N) (t : fcS) (a0 : Int32) (post : Int32 → fcS → Prop) (h : q_X3_inverse t a0 post) : Met l yX3_inverse wm_X3_inverse ({ frames := 0, cells := 0, slots := 0, locals := 0 } : Room) (fcPre D adr cs N t [.ref (adr 1), .int a0]) (fQi D adr cs N post) 0 0 (faN adr N) := by
  refine f_enter (cc := cX3_inverse) (nL := 3) (ret := some .int) (lv := [(0, .ref (adr 1)), (1, .int a0)]) (own := RX3) (by decide) rfl (Nat.le_of_ble_eq_true rfl) rfl rfl ?_
  intro p e s m below meth c ls C hP hS hl
  have hx := C.1.1
  have hb := C.1.2.1
  unfold q_X3_inverse at h
  refine lv_iconst (v := 1) hx hb dX3_inverse_0 (by decide) ?_
  refine lv_istore_n (lv' := [(2, .int 1), (0, .ref (adr 1)), (1, .int a0)]) hx hb dX3_inverse_1 rfl hl (by decide) rfl (fun ls hl => ?_)
  obtain ⟨n9, h⟩ := h
  exact k_X3_inverse_2 hN C n9 a0 1 t _ _ _ h hP hS (lv_sub hl [1, 2, 0] rfl)

/-! X3.quotient -/
abbrev wm_X3_quotient : List Cond := Cond.code yX3_quotient cX3_quotient 9 (some .int) :: wsL_law
def q_X3_quotient_32 (post : Int32 → fcS → Prop) : Nat → Int32 → Int32 → Int32 → Int32 → Int32 → Int32 → fcS → Prop
  | 0, _, _, _, _, _, _, _ => False
  | n + 1, v2, v3, v4, v5, v6, v7, t => (v7 < 0 → (post v6 t)) ∧ (¬ v7 < 0 → ((v4 = 0 → (post v6 t)) ∧ (¬ v4 = 0 → (q_X3_coefficient t v5 ((v3 + v7)) (fun (r11 : Int32) (t10 : fcS) => (¬ ((fgi t10 1 0) : Int32) = 0) ∧ (∀ x12 : Int32, x12 = (irm ((r11 * v4)) ((fgi t10 1 0))) → (q_X3_place t10 v7 (fun (r14 : Int32) (t13 : fcS) => ∀ x15 : Int32, x15 = (v6 + (x12 * r14)) → (q_X3_scaled t13 v2 x12 (fun (r17 : Int32) (t16 : fcS) => q_X3_place t16 v7 (fun (r19 : Int32) (t18 : fcS) => q_X3_difference t18 v5 ((r17 * r19)) (fun (r21 : Int32) (t20 : fcS) => ∀ x22 : Int32, x22 = v7 + (-1) → (q_X3_quotient_32 post n v2 v3 v4 r21 x15 x22 t20)))))))))))))
def q_X3_quotient (t : fcS) (a0 : Int32) (a1 : Int32) (post : Int32 → fcS → Prop) : Prop := q_X3_degree t a1 (fun (r2 : Int32) (t1 : fcS) => q_X3_lead t1 a1 (fun (r4 : Int32) (t3 : fcS) => q_X3_inverse t3 r4 (fun (r6 : Int32) (t5 : fcS) => q_X3_degree t5 a0 (fun (r8 : Int32) (t7 : fcS) => ∀ x9 : Int32, x9 = (r8 - r2) → (∃ n0, q_X3_quotient_32 post n0 a1 r2 r6 a0 0 x9 t7)))))
set_option maxHeartbeats 4000000 in
set_option maxRecDepth 100000 in
theorem k_X3_quotient_32 {D : va_G} {adr : Nat → Nat} {cs : Nat → ClassId} {N : Nat} (hN : 53 ≤ N) {p : Program} {l : Launch} {e : Env} {s : State} {m : MethodId} {args : Array Value} {below : List Frame} {meth : Method} {c : Code} (C : fCx D adr cs N p s m args meth c cX3_quotient 9 (some .int) RX3 wm_X3_quotient) {post : Int32 → fcS → Prop} : ∀ (n : Nat) (v2 : Int32) (v3 : Int32) (v4 : Int32) (v5 : Int32) (v6 : Int32) (v7 : Int32) (t : fcS) (H : Heap) (locs : List Loc) (ls : Array Slot), q_X3_quotient_32 post n v2 v3 v4 v5 v6 v7 t → va_P D vwCl (fwl adr N (fG adr cs t)) H → va_S (faN adr N) s.heap H locs → lv_has ls 9 [(0, .ref (adr 1)), (2, .int v2), (3, .int v3), (4, .int v4), (5, .int v5), (6, .int v6), (7, .int v7)] → W p l e ({ frames := 1, cells := 0, slots := 0, locals := 27 } : Room) s m args below meth c H locs 0 0 (MQ below (fQi D adr cs N post) args s 0 0 (faN adr N)) (F0 m 32 ls []) := by
  have hx := C.1.1
  have hb := C.1.2.1
  intro n
  induction n with
  | zero => intro v2 v3 v4 v5 v6 v7 t H locs ls h; exact False.elim h
  | succ n ih =>
    intro v2 v3 v4 v5 v6 v7 t H locs ls h hP hS hl
    unfold q_X3_quotient_32 at h
    refine lv_iload hx hb dX3_quotient_32 (lv_at hl 6 rfl) ?_
    refine lv_if_lt (tgt := 104) hx hb dX3_quotient_34 (by decide) (fun c9 => ?_) (fun c9 => ?_)
    · replace h := h.1 c9
      refine lv_iload hx hb dX3_quotient_104 (lv_at hl 5 rfl) ?_
      exact fr_iret C hP hS h dX3_quotient_106
    · replace h := h.2 c9
      refine lv_iload hx hb dX3_quotient_37 (lv_at hl 3 rfl) ?_
      refine lv_if_eq (tgt := 104) hx hb dX3_quotient_39 (by decide) (fun c9 => ?_) (fun c9 => ?_)
      · replace h := h.1 c9
        refine lv_iload hx hb dX3_quotient_104 (lv_at hl 5 rfl) ?_
        exact fr_iret C hP hS h dX3_quotient_106
      · replace h := h.2 c9
        refine lv_aload_n hx hb dX3_quotient_42 rfl (lv_at hl 0 rfl) ?_
        refine lv_iload hx hb dX3_quotient_43 (lv_at hl 4 rfl) ?_
        refine lv_iload_n hx hb dX3_quotient_45 rfl (lv_at hl 2 rfl) ?_
        refine lv_iload hx hb dX3_quotient_46 (lv_at hl 6 rfl) ?_
        refine lv_iadd hx hb dX3_quotient_48 ?_
        refine fr_ci (fr_runV (n := 2) (rest := []) C (c_X3_coefficient l D adr cs hN t v5 ((v3 + v7)) _ h) hP hS (by omega) (fG_PO adr cs t) rfl (fgV mw_5_16 mw_5_17 mw_5_18 mw_1_14 mw_5_19) rfl rfl rfl (by decide +kernel) ⟨Nat.le_of_ble_eq_true rfl, Nat.le_of_ble_eq_true rfl⟩ rfl hl.1 rfl (Nat.le_of_ble_eq_true rfl) dX3_quotient_49) hS (fun r11 t10 H locs h hP hS => ?_)
        refine lv_iload hx hb dX3_quotient_52 (lv_at hl 3 rfl) ?_
        refine lv_imul hx hb dX3_quotient_54 ?_
        refine lv_aload_n hx hb dX3_quotient_55 rfl (lv_at hl 0 rfl) ?_
        refine fr_get (j := 0) C hP (by omega) (fG_PO adr cs t10) rfl (fun w h => List.mem_cons_of_mem _ (inl_X3 w h)) (by decide) rfl (List.mem_cons_of_mem _ mw_2_8) rfl dX3_quotient_56 ?_
        refine lv_irem hx hb dX3_quotient_59 h.1 ?_
        replace h := h.2
        refine lv_topi (fun x12 ex12 => ?_)
        replace h := h x12 ex12
        refine lv_istore (lv' := [(8, .int x12), (0, .ref (adr 1)), (2, .int v2), (3, .int v3), (4, .int v4), (5, .int v5), (6, .int v6), (7, .int v7)]) hx hb dX3_quotient_60 hl (by decide) rfl (fun ls hl => ?_)
        refine lv_iload hx hb dX3_quotient_62 (lv_at hl 6 rfl) ?_
        refine lv_iload hx hb dX3_quotient_64 (lv_at hl 0 rfl) ?_
        refine lv_aload_n hx hb dX3_quotient_66 rfl (lv_at hl 1 rfl) ?_
        refine lv_iload hx hb dX3_quotient_67 (lv_at hl 7 rfl) ?_
        refine fr_ci (fr_runV (n := 1) (rest := [.int x12, .int v6]) C (c_X3_place l D adr cs hN t10 v7 _ h) hP hS (by omega) (fG_PO adr cs t10) rfl (fgV mw_4_23 mw_4_6 mw_4_7 mw_1_14 mw_4_8) rfl rfl rfl (by decide +kernel) ⟨Nat.le_of_ble_eq_true rfl, Nat.le_of_ble_eq_true rfl⟩ rfl hl.1 rfl (Nat.le_of_ble_eq_true rfl) dX3_quotient_69) hS (fun r14 t13 H locs h hP hS => ?_)
        refine lv_imul hx hb dX3_quotient_72 ?_
        refine lv_iadd hx hb dX3_quotient_73 ?_
        refine lv_topi (fun x15 ex15 => ?_)
        replace h := h x15 ex15
        refine lv_istore (lv' := [(6, .int x15), (8, .int x12), (0, .ref (adr 1)), (2, .int v2), (3, .int v3), (4, .int v4), (5, .int v5), (7, .int v7)]) hx hb dX3_quotient_74 hl (by decide) rfl (fun ls hl => ?_)
        refine lv_aload_n hx hb dX3_quotient_76 rfl (lv_at hl 2 rfl) ?_
        refine lv_iload hx hb dX3_quotient_77 (lv_at hl 6 rfl) ?_
        refine lv_aload_n hx hb dX3_quotient_79 rfl (lv_at hl 2 rfl) ?_
        refine lv_iload_n hx hb dX3_quotient_80 rfl (lv_at hl 3 rfl) ?_
        refine lv_iload hx hb dX3_quotient_81 (lv_at hl 1 rfl) ?_
        refine fr_ci (fr_runV (n := 2) (rest := [.int v5, .ref (adr 1)]) C (c_X3_scaled l D adr cs hN t13 v2 x12 _ h) hP hS (by omega) (fG_PO adr cs t13) rfl (fgV mw_5_20 mw_5_21 mw_5_22 mw_1_14 mw_5_23) rfl rfl rfl (by decide +kernel) ⟨Nat.le_of_ble_eq_true rfl, Nat.le_of_ble_eq_true rfl⟩ rfl hl.1 rfl (Nat.le_of_ble_eq_true rfl) dX3_quotient_83) hS (fun r17 t16 H locs h hP hS => ?_)
        refine lv_aload_n hx hb dX3_quotient_86 rfl (lv_at hl 2 rfl) ?_
        refine lv_iload hx hb dX3_quotient_87 (lv_at hl 7 rfl) ?_
        refine fr_ci (fr_runV (n := 1) (rest := [.int r17, .int v5, .ref (adr 1)]) C (c_X3_place l D adr cs hN t16 v7 _ h) hP hS (by omega) (fG_PO adr cs t16) rfl (fgV mw_4_23 mw_4_6 mw_4_7 mw_1_14 mw_4_8) rfl rfl rfl (by decide +kernel) ⟨Nat.le_of_ble_eq_true rfl, Nat.le_of_ble_eq_true rfl⟩ rfl hl.1 rfl (Nat.le_of_ble_eq_true rfl) dX3_quotient_89) hS (fun r19 t18 H locs h hP hS => ?_)
        refine lv_imul hx hb dX3_quotient_92 ?_
        refine fr_ci (fr_runV (n := 2) (rest := []) C (c_X3_difference l D adr cs hN t18 v5 ((r17 * r19)) _ h) hP hS (by omega) (fG_PO adr cs t18) rfl (fgV mw_6_0 mw_6_1 mw_6_2 mw_1_14 mw_6_3) rfl rfl rfl (by decide +kernel) ⟨Nat.le_of_ble_eq_true rfl, Nat.le_of_ble_eq_true rfl⟩ rfl hl.1 rfl (Nat.le_of_ble_eq_true rfl) dX3_quotient_93) hS (fun r21 t20 H locs h hP hS => ?_)
        refine lv_istore (lv' := [(5, .int r21), (6, .int x15), (8, .int x12), (0, .ref (adr 1)), (2, .int v2), (3, .int v3), (4, .int v4), (7, .int v7)]) hx hb dX3_quotient_96 hl (by decide) rfl (fun ls hl => ?_)
        obtain ⟨x22, ex22⟩ : ∃ y : Int32, y = v7 + (-1) := ⟨_, rfl⟩
        replace h := h x22 ex22
        refine lv_iinc (v := x22) (lv' := [(7, .int x22), (5, .int r21), (6, .int x15), (8, .int x12), (0, .ref (adr 1)), (2, .int v2), (3, .int v3), (4, .int v4)]) hx hb dX3_quotient_98 hl (k := 7) rfl (by rw [ex22]; rfl) (by decide) rfl (fun ls hl => ?_)
        refine lv_goto (tgt := 32) hx hb dX3_quotient_101 (by decide) ?_
        exact ih v2 v3 v4 r21 x15 x22 t20 _ _ _ h hP hS (lv_sub hl [4, 5, 6, 7, 1, 2, 0] rfl)

set_option maxHeartbeats 4000000 in
set_option maxRecDepth 100000 in
theorem c_X3_quotient (l : Launch) (D : va_G) (adr : Nat → Nat) (cs : Nat → ClassId) {N : Nat} (hN : 53 ≤ N) (t : fcS) (a0 : Int32) (a1 : Int32) (post : Int32 → fcS → Prop) (h : q_X3_quotient t a0 a1 post) : Met l yX3_quotient wm_X3_quotient ({ frames := 1, cells := 0, slots := 0, locals := 27 } : Room) (fcPre D adr cs N t [.ref (adr 1), .int a0, .int a1]) (fQi D adr cs N post) 0 0 (faN adr N) := by
  refine f_enter (cc := cX3_quotient) (nL := 9) (ret := some .int) (lv := [(0, .ref (adr 1)), (1, .int a0), (2, .int a1)]) (own := RX3) (by decide) rfl (Nat.le_of_ble_eq_true rfl) rfl rfl ?_
  intro p e s m below meth c ls C hP hS hl
  have hx := C.1.1
  have hb := C.1.2.1
  unfold q_X3_quotient at h
  refine lv_aload_n hx hb dX3_quotient_0 rfl (lv_at hl 0 rfl) ?_
  refine lv_iload_n hx hb dX3_quotient_1 rfl (lv_at hl 2 rfl) ?_
  refine fr_ci (fr_runV (n := 1) (rest := []) C (c_X3_degree l D adr cs hN t a1 _ h) hP hS (by omega) (fG_PO adr cs t) rfl (fgV mw_5_4 mw_5_5 mw_5_6 mw_1_14 mw_5_7) rfl rfl rfl (by decide +kernel) ⟨Nat.le_of_ble_eq_true rfl, Nat.le_of_ble_eq_true rfl⟩ rfl hl.1 rfl (Nat.le_of_ble_eq_true rfl) dX3_quotient_2) hS (fun r2 t1 H locs h hP hS => ?_)
  refine lv_istore_n (lv' := [(3, .int r2), (0, .ref (adr 1)), (1, .int a0), (2, .int a1)]) hx hb dX3_quotient_5 rfl hl (by decide) rfl (fun ls hl => ?_)
  refine lv_aload_n hx hb dX3_quotient_6 rfl (lv_at hl 1 rfl) ?_
  refine lv_aload_n hx hb dX3_quotient_7 rfl (lv_at hl 1 rfl) ?_
  refine lv_iload_n hx hb dX3_quotient_8 rfl (lv_at hl 3 rfl) ?_
  refine fr_ci (fr_runV (n := 1) (rest := [.ref (adr 1)]) C (c_X3_lead l D adr cs hN t1 a1 _ h) hP hS (by omega) (fG_PO adr cs t1) rfl (fgV mw_5_8 mw_5_9 mw_5_10 mw_1_14 mw_5_11) rfl rfl rfl (by decide +kernel) ⟨Nat.le_of_ble_eq_true rfl, Nat.le_of_ble_eq_true rfl⟩ rfl hl.1 rfl (Nat.le_of_ble_eq_true rfl) dX3_quotient_9) hS (fun r4 t3 H locs h hP hS => ?_)
  refine fr_ci (fr_runV (n := 1) (rest := []) C (c_X3_inverse l D adr cs hN t3 r4 _ h) hP hS (by omega) (fG_PO adr cs t3) rfl (fgV mw_5_12 mw_5_13 mw_5_14 mw_1_14 mw_5_15) rfl rfl rfl (by decide +kernel) ⟨Nat.le_of_ble_eq_true rfl, Nat.le_of_ble_eq_true rfl⟩ rfl hl.1 rfl (Nat.le_of_ble_eq_true rfl) dX3_quotient_12) hS (fun r6 t5 H locs h hP hS => ?_)
  refine lv_istore (lv' := [(4, .int r6), (3, .int r2), (0, .ref (adr 1)), (1, .int a0), (2, .int a1)]) hx hb dX3_quotient_15 hl (by decide) rfl (fun ls hl => ?_)
  refine lv_iload_n hx hb dX3_quotient_17 rfl (lv_at hl 3 rfl) ?_
  refine lv_istore (lv' := [(5, .int a0), (4, .int r6), (3, .int r2), (0, .ref (adr 1)), (1, .int a0), (2, .int a1)]) hx hb dX3_quotient_18 hl (by decide) rfl (fun ls hl => ?_)
  refine lv_iconst (v := 0) hx hb dX3_quotient_20 (by decide) ?_
  refine lv_istore (lv' := [(6, .int 0), (5, .int a0), (4, .int r6), (3, .int r2), (0, .ref (adr 1)), (1, .int a0), (2, .int a1)]) hx hb dX3_quotient_21 hl (by decide) rfl (fun ls hl => ?_)
  refine lv_aload_n hx hb dX3_quotient_23 rfl (lv_at hl 4 rfl) ?_
  refine lv_iload_n hx hb dX3_quotient_24 rfl (lv_at hl 5 rfl) ?_
  refine fr_ci (fr_runV (n := 1) (rest := []) C (c_X3_degree l D adr cs hN t5 a0 _ h) hP hS (by omega) (fG_PO adr cs t5) rfl (fgV mw_5_4 mw_5_5 mw_5_6 mw_1_14 mw_5_7) rfl rfl rfl (by decide +kernel) ⟨Nat.le_of_ble_eq_true rfl, Nat.le_of_ble_eq_true rfl⟩ rfl hl.1 rfl (Nat.le_of_ble_eq_true rfl) dX3_quotient_25) hS (fun r8 t7 H locs h hP hS => ?_)
  refine lv_iload_n hx hb dX3_quotient_28 rfl (lv_at hl 3 rfl) ?_
  refine lv_isub hx hb dX3_quotient_29 ?_
  refine lv_topi (fun x9 ex9 => ?_)
  replace h := h x9 ex9
  refine lv_istore (lv' := [(7, .int x9), (6, .int 0), (5, .int a0), (4, .int r6), (3, .int r2), (0, .ref (adr 1)), (1, .int a0), (2, .int a1)]) hx hb dX3_quotient_30 hl (by decide) rfl (fun ls hl => ?_)
  obtain ⟨n9, h⟩ := h
  exact k_X3_quotient_32 hN C n9 a1 r2 r6 a0 0 x9 t7 _ _ _ h hP hS (lv_sub hl [5, 7, 4, 3, 2, 1, 0] rfl)

/-! X3.rest -/
abbrev wm_X3_rest : List Cond := Cond.code yX3_rest cX3_rest 8 (some .int) :: wsL_law
def q_X3_rest_29 (post : Int32 → fcS → Prop) : Nat → Int32 → Int32 → Int32 → Int32 → Int32 → fcS → Prop
  | 0, _, _, _, _, _, _ => False
  | n + 1, v2, v3, v4, v5, v6, t => (v6 < 0 → (post v5 t)) ∧ (¬ v6 < 0 → ((v4 = 0 → (post v5 t)) ∧ (¬ v4 = 0 → (q_X3_coefficient t v5 ((v3 + v6)) (fun (r11 : Int32) (t10 : fcS) => (¬ ((fgi t10 1 0) : Int32) = 0) ∧ (∀ x12 : Int32, x12 = (irm ((r11 * v4)) ((fgi t10 1 0))) → (q_X3_scaled t10 v2 x12 (fun (r14 : Int32) (t13 : fcS) => q_X3_place t13 v6 (fun (r16 : Int32) (t15 : fcS) => q_X3_difference t15 v5 ((r14 * r16)) (fun (r18 : Int32) (t17 : fcS) => ∀ x19 : Int32, x19 = v6 + (-1) → (q_X3_rest_29 post n v2 v3 v4 r18 x19 t17)))))))))))
def q_X3_rest (t : fcS) (a0 : Int32) (a1 : Int32) (post : Int32 → fcS → Prop) : Prop := q_X3_degree t a1 (fun (r2 : Int32) (t1 : fcS) => q_X3_lead t1 a1 (fun (r4 : Int32) (t3 : fcS) => q_X3_inverse t3 r4 (fun (r6 : Int32) (t5 : fcS) => q_X3_degree t5 a0 (fun (r8 : Int32) (t7 : fcS) => ∀ x9 : Int32, x9 = (r8 - r2) → (∃ n0, q_X3_rest_29 post n0 a1 r2 r6 a0 x9 t7)))))
set_option maxHeartbeats 4000000 in
set_option maxRecDepth 100000 in
theorem k_X3_rest_29 {D : va_G} {adr : Nat → Nat} {cs : Nat → ClassId} {N : Nat} (hN : 53 ≤ N) {p : Program} {l : Launch} {e : Env} {s : State} {m : MethodId} {args : Array Value} {below : List Frame} {meth : Method} {c : Code} (C : fCx D adr cs N p s m args meth c cX3_rest 8 (some .int) RX3 wm_X3_rest) {post : Int32 → fcS → Prop} : ∀ (n : Nat) (v2 : Int32) (v3 : Int32) (v4 : Int32) (v5 : Int32) (v6 : Int32) (t : fcS) (H : Heap) (locs : List Loc) (ls : Array Slot), q_X3_rest_29 post n v2 v3 v4 v5 v6 t → va_P D vwCl (fwl adr N (fG adr cs t)) H → va_S (faN adr N) s.heap H locs → lv_has ls 8 [(0, .ref (adr 1)), (2, .int v2), (3, .int v3), (4, .int v4), (5, .int v5), (6, .int v6)] → W p l e ({ frames := 1, cells := 0, slots := 0, locals := 27 } : Room) s m args below meth c H locs 0 0 (MQ below (fQi D adr cs N post) args s 0 0 (faN adr N)) (F0 m 29 ls []) := by
  have hx := C.1.1
  have hb := C.1.2.1
  intro n
  induction n with
  | zero => intro v2 v3 v4 v5 v6 t H locs ls h; exact False.elim h
  | succ n ih =>
    intro v2 v3 v4 v5 v6 t H locs ls h hP hS hl
    unfold q_X3_rest_29 at h
    refine lv_iload hx hb dX3_rest_29 (lv_at hl 5 rfl) ?_
    refine lv_if_lt (tgt := 87) hx hb dX3_rest_31 (by decide) (fun c9 => ?_) (fun c9 => ?_)
    · replace h := h.1 c9
      refine lv_iload hx hb dX3_rest_87 (lv_at hl 4 rfl) ?_
      exact fr_iret C hP hS h dX3_rest_89
    · replace h := h.2 c9
      refine lv_iload hx hb dX3_rest_34 (lv_at hl 3 rfl) ?_
      refine lv_if_eq (tgt := 87) hx hb dX3_rest_36 (by decide) (fun c9 => ?_) (fun c9 => ?_)
      · replace h := h.1 c9
        refine lv_iload hx hb dX3_rest_87 (lv_at hl 4 rfl) ?_
        exact fr_iret C hP hS h dX3_rest_89
      · replace h := h.2 c9
        refine lv_aload_n hx hb dX3_rest_39 rfl (lv_at hl 0 rfl) ?_
        refine lv_iload hx hb dX3_rest_40 (lv_at hl 4 rfl) ?_
        refine lv_iload_n hx hb dX3_rest_42 rfl (lv_at hl 2 rfl) ?_
        refine lv_iload hx hb dX3_rest_43 (lv_at hl 5 rfl) ?_
        refine lv_iadd hx hb dX3_rest_45 ?_
        refine fr_ci (fr_runV (n := 2) (rest := []) C (c_X3_coefficient l D adr cs hN t v5 ((v3 + v6)) _ h) hP hS (by omega) (fG_PO adr cs t) rfl (fgV mw_5_16 mw_5_17 mw_5_18 mw_1_14 mw_5_19) rfl rfl rfl (by decide +kernel) ⟨Nat.le_of_ble_eq_true rfl, Nat.le_of_ble_eq_true rfl⟩ rfl hl.1 rfl (Nat.le_of_ble_eq_true rfl) dX3_rest_46) hS (fun r11 t10 H locs h hP hS => ?_)
        refine lv_iload hx hb dX3_rest_49 (lv_at hl 3 rfl) ?_
        refine lv_imul hx hb dX3_rest_51 ?_
        refine lv_aload_n hx hb dX3_rest_52 rfl (lv_at hl 0 rfl) ?_
        refine fr_get (j := 0) C hP (by omega) (fG_PO adr cs t10) rfl (fun w h => List.mem_cons_of_mem _ (inl_X3 w h)) (by decide) rfl (List.mem_cons_of_mem _ mw_2_8) rfl dX3_rest_53 ?_
        refine lv_irem hx hb dX3_rest_56 h.1 ?_
        replace h := h.2
        refine lv_topi (fun x12 ex12 => ?_)
        replace h := h x12 ex12
        refine lv_istore (lv' := [(7, .int x12), (0, .ref (adr 1)), (2, .int v2), (3, .int v3), (4, .int v4), (5, .int v5), (6, .int v6)]) hx hb dX3_rest_57 hl (by decide) rfl (fun ls hl => ?_)
        refine lv_aload_n hx hb dX3_rest_59 rfl (lv_at hl 1 rfl) ?_
        refine lv_iload hx hb dX3_rest_60 (lv_at hl 5 rfl) ?_
        refine lv_aload_n hx hb dX3_rest_62 rfl (lv_at hl 1 rfl) ?_
        refine lv_iload_n hx hb dX3_rest_63 rfl (lv_at hl 2 rfl) ?_
        refine lv_iload hx hb dX3_rest_64 (lv_at hl 0 rfl) ?_
        refine fr_ci (fr_runV (n := 2) (rest := [.int v5, .ref (adr 1)]) C (c_X3_scaled l D adr cs hN t10 v2 x12 _ h) hP hS (by omega) (fG_PO adr cs t10) rfl (fgV mw_5_20 mw_5_21 mw_5_22 mw_1_14 mw_5_23) rfl rfl rfl (by decide +kernel) ⟨Nat.le_of_ble_eq_true rfl, Nat.le_of_ble_eq_true rfl⟩ rfl hl.1 rfl (Nat.le_of_ble_eq_true rfl) dX3_rest_66) hS (fun r14 t13 H locs h hP hS => ?_)
        refine lv_aload_n hx hb dX3_rest_69 rfl (lv_at hl 1 rfl) ?_
        refine lv_iload hx hb dX3_rest_70 (lv_at hl 6 rfl) ?_
        refine fr_ci (fr_runV (n := 1) (rest := [.int r14, .int v5, .ref (adr 1)]) C (c_X3_place l D adr cs hN t13 v6 _ h) hP hS (by omega) (fG_PO adr cs t13) rfl (fgV mw_4_23 mw_4_6 mw_4_7 mw_1_14 mw_4_8) rfl rfl rfl (by decide +kernel) ⟨Nat.le_of_ble_eq_true rfl, Nat.le_of_ble_eq_true rfl⟩ rfl hl.1 rfl (Nat.le_of_ble_eq_true rfl) dX3_rest_72) hS (fun r16 t15 H locs h hP hS => ?_)
        refine lv_imul hx hb dX3_rest_75 ?_
        refine fr_ci (fr_runV (n := 2) (rest := []) C (c_X3_difference l D adr cs hN t15 v5 ((r14 * r16)) _ h) hP hS (by omega) (fG_PO adr cs t15) rfl (fgV mw_6_0 mw_6_1 mw_6_2 mw_1_14 mw_6_3) rfl rfl rfl (by decide +kernel) ⟨Nat.le_of_ble_eq_true rfl, Nat.le_of_ble_eq_true rfl⟩ rfl hl.1 rfl (Nat.le_of_ble_eq_true rfl) dX3_rest_76) hS (fun r18 t17 H locs h hP hS => ?_)
        refine lv_istore (lv' := [(5, .int r18), (7, .int x12), (0, .ref (adr 1)), (2, .int v2), (3, .int v3), (4, .int v4), (6, .int v6)]) hx hb dX3_rest_79 hl (by decide) rfl (fun ls hl => ?_)
        obtain ⟨x19, ex19⟩ : ∃ y : Int32, y = v6 + (-1) := ⟨_, rfl⟩
        replace h := h x19 ex19
        refine lv_iinc (v := x19) (lv' := [(6, .int x19), (5, .int r18), (7, .int x12), (0, .ref (adr 1)), (2, .int v2), (3, .int v3), (4, .int v4)]) hx hb dX3_rest_81 hl (k := 6) rfl (by rw [ex19]; rfl) (by decide) rfl (fun ls hl => ?_)
        refine lv_goto (tgt := 29) hx hb dX3_rest_84 (by decide) ?_
        exact ih v2 v3 v4 r18 x19 t17 _ _ _ h hP hS (lv_sub hl [3, 4, 5, 6, 1, 0] rfl)

set_option maxHeartbeats 4000000 in
set_option maxRecDepth 100000 in
theorem c_X3_rest (l : Launch) (D : va_G) (adr : Nat → Nat) (cs : Nat → ClassId) {N : Nat} (hN : 53 ≤ N) (t : fcS) (a0 : Int32) (a1 : Int32) (post : Int32 → fcS → Prop) (h : q_X3_rest t a0 a1 post) : Met l yX3_rest wm_X3_rest ({ frames := 1, cells := 0, slots := 0, locals := 27 } : Room) (fcPre D adr cs N t [.ref (adr 1), .int a0, .int a1]) (fQi D adr cs N post) 0 0 (faN adr N) := by
  refine f_enter (cc := cX3_rest) (nL := 8) (ret := some .int) (lv := [(0, .ref (adr 1)), (1, .int a0), (2, .int a1)]) (own := RX3) (by decide) rfl (Nat.le_of_ble_eq_true rfl) rfl rfl ?_
  intro p e s m below meth c ls C hP hS hl
  have hx := C.1.1
  have hb := C.1.2.1
  unfold q_X3_rest at h
  refine lv_aload_n hx hb dX3_rest_0 rfl (lv_at hl 0 rfl) ?_
  refine lv_iload_n hx hb dX3_rest_1 rfl (lv_at hl 2 rfl) ?_
  refine fr_ci (fr_runV (n := 1) (rest := []) C (c_X3_degree l D adr cs hN t a1 _ h) hP hS (by omega) (fG_PO adr cs t) rfl (fgV mw_5_4 mw_5_5 mw_5_6 mw_1_14 mw_5_7) rfl rfl rfl (by decide +kernel) ⟨Nat.le_of_ble_eq_true rfl, Nat.le_of_ble_eq_true rfl⟩ rfl hl.1 rfl (Nat.le_of_ble_eq_true rfl) dX3_rest_2) hS (fun r2 t1 H locs h hP hS => ?_)
  refine lv_istore_n (lv' := [(3, .int r2), (0, .ref (adr 1)), (1, .int a0), (2, .int a1)]) hx hb dX3_rest_5 rfl hl (by decide) rfl (fun ls hl => ?_)
  refine lv_aload_n hx hb dX3_rest_6 rfl (lv_at hl 1 rfl) ?_
  refine lv_aload_n hx hb dX3_rest_7 rfl (lv_at hl 1 rfl) ?_
  refine lv_iload_n hx hb dX3_rest_8 rfl (lv_at hl 3 rfl) ?_
  refine fr_ci (fr_runV (n := 1) (rest := [.ref (adr 1)]) C (c_X3_lead l D adr cs hN t1 a1 _ h) hP hS (by omega) (fG_PO adr cs t1) rfl (fgV mw_5_8 mw_5_9 mw_5_10 mw_1_14 mw_5_11) rfl rfl rfl (by decide +kernel) ⟨Nat.le_of_ble_eq_true rfl, Nat.le_of_ble_eq_true rfl⟩ rfl hl.1 rfl (Nat.le_of_ble_eq_true rfl) dX3_rest_9) hS (fun r4 t3 H locs h hP hS => ?_)
  refine fr_ci (fr_runV (n := 1) (rest := []) C (c_X3_inverse l D adr cs hN t3 r4 _ h) hP hS (by omega) (fG_PO adr cs t3) rfl (fgV mw_5_12 mw_5_13 mw_5_14 mw_1_14 mw_5_15) rfl rfl rfl (by decide +kernel) ⟨Nat.le_of_ble_eq_true rfl, Nat.le_of_ble_eq_true rfl⟩ rfl hl.1 rfl (Nat.le_of_ble_eq_true rfl) dX3_rest_12) hS (fun r6 t5 H locs h hP hS => ?_)
  refine lv_istore (lv' := [(4, .int r6), (3, .int r2), (0, .ref (adr 1)), (1, .int a0), (2, .int a1)]) hx hb dX3_rest_15 hl (by decide) rfl (fun ls hl => ?_)
  refine lv_iload_n hx hb dX3_rest_17 rfl (lv_at hl 3 rfl) ?_
  refine lv_istore (lv' := [(5, .int a0), (4, .int r6), (3, .int r2), (0, .ref (adr 1)), (1, .int a0), (2, .int a1)]) hx hb dX3_rest_18 hl (by decide) rfl (fun ls hl => ?_)
  refine lv_aload_n hx hb dX3_rest_20 rfl (lv_at hl 3 rfl) ?_
  refine lv_iload_n hx hb dX3_rest_21 rfl (lv_at hl 4 rfl) ?_
  refine fr_ci (fr_runV (n := 1) (rest := []) C (c_X3_degree l D adr cs hN t5 a0 _ h) hP hS (by omega) (fG_PO adr cs t5) rfl (fgV mw_5_4 mw_5_5 mw_5_6 mw_1_14 mw_5_7) rfl rfl rfl (by decide +kernel) ⟨Nat.le_of_ble_eq_true rfl, Nat.le_of_ble_eq_true rfl⟩ rfl hl.1 rfl (Nat.le_of_ble_eq_true rfl) dX3_rest_22) hS (fun r8 t7 H locs h hP hS => ?_)
  refine lv_iload_n hx hb dX3_rest_25 rfl (lv_at hl 2 rfl) ?_
  refine lv_isub hx hb dX3_rest_26 ?_
  refine lv_topi (fun x9 ex9 => ?_)
  replace h := h x9 ex9
  refine lv_istore (lv' := [(6, .int x9), (5, .int a0), (4, .int r6), (3, .int r2), (0, .ref (adr 1)), (1, .int a0), (2, .int a1)]) hx hb dX3_rest_27 hl (by decide) rfl (fun ls hl => ?_)
  obtain ⟨n9, h⟩ := h
  exact k_X3_rest_29 hN C n9 a1 r2 r6 a0 x9 t7 _ _ _ h hP hS (lv_sub hl [4, 6, 3, 2, 1, 0] rfl)

/-! X3.monic -/
abbrev wm_X3_monic : List Cond := Cond.code yX3_monic cX3_monic 2 (some .int) :: wsL_law
def q_X3_monic (t : fcS) (a0 : Int32) (post : Int32 → fcS → Prop) : Prop := q_X3_lead t a0 (fun (r2 : Int32) (t1 : fcS) => q_X3_inverse t1 r2 (fun (r4 : Int32) (t3 : fcS) => q_X3_scaled t3 a0 r4 (fun (r6 : Int32) (t5 : fcS) => post r6 t5)))
set_option maxHeartbeats 4000000 in
set_option maxRecDepth 100000 in
theorem c_X3_monic (l : Launch) (D : va_G) (adr : Nat → Nat) (cs : Nat → ClassId) {N : Nat} (hN : 53 ≤ N) (t : fcS) (a0 : Int32) (post : Int32 → fcS → Prop) (h : q_X3_monic t a0 post) : Met l yX3_monic wm_X3_monic ({ frames := 1, cells := 0, slots := 0, locals := 26 } : Room) (fcPre D adr cs N t [.ref (adr 1), .int a0]) (fQi D adr cs N post) 0 0 (faN adr N) := by
  refine f_enter (cc := cX3_monic) (nL := 2) (ret := some .int) (lv := [(0, .ref (adr 1)), (1, .int a0)]) (own := RX3) (by decide) rfl (Nat.le_of_ble_eq_true rfl) rfl rfl ?_
  intro p e s m below meth c ls C hP hS hl
  have hx := C.1.1
  have hb := C.1.2.1
  unfold q_X3_monic at h
  refine lv_aload_n hx hb dX3_monic_0 rfl (lv_at hl 0 rfl) ?_
  refine lv_iload_n hx hb dX3_monic_1 rfl (lv_at hl 1 rfl) ?_
  refine lv_aload_n hx hb dX3_monic_2 rfl (lv_at hl 0 rfl) ?_
  refine lv_aload_n hx hb dX3_monic_3 rfl (lv_at hl 0 rfl) ?_
  refine lv_iload_n hx hb dX3_monic_4 rfl (lv_at hl 1 rfl) ?_
  refine fr_ci (fr_runV (n := 1) (rest := [.ref (adr 1), .int a0, .ref (adr 1)]) C (c_X3_lead l D adr cs hN t a0 _ h) hP hS (by omega) (fG_PO adr cs t) rfl (fgV mw_5_8 mw_5_9 mw_5_10 mw_1_14 mw_5_11) rfl rfl rfl (by decide +kernel) ⟨Nat.le_of_ble_eq_true rfl, Nat.le_of_ble_eq_true rfl⟩ rfl hl.1 rfl (Nat.le_of_ble_eq_true rfl) dX3_monic_5) hS (fun r2 t1 H locs h hP hS => ?_)
  refine fr_ci (fr_runV (n := 1) (rest := [.int a0, .ref (adr 1)]) C (c_X3_inverse l D adr cs hN t1 r2 _ h) hP hS (by omega) (fG_PO adr cs t1) rfl (fgV mw_5_12 mw_5_13 mw_5_14 mw_1_14 mw_5_15) rfl rfl rfl (by decide +kernel) ⟨Nat.le_of_ble_eq_true rfl, Nat.le_of_ble_eq_true rfl⟩ rfl hl.1 rfl (Nat.le_of_ble_eq_true rfl) dX3_monic_8) hS (fun r4 t3 H locs h hP hS => ?_)
  refine fr_ci (fr_runV (n := 2) (rest := []) C (c_X3_scaled l D adr cs hN t3 a0 r4 _ h) hP hS (by omega) (fG_PO adr cs t3) rfl (fgV mw_5_20 mw_5_21 mw_5_22 mw_1_14 mw_5_23) rfl rfl rfl (by decide +kernel) ⟨Nat.le_of_ble_eq_true rfl, Nat.le_of_ble_eq_true rfl⟩ rfl hl.1 rfl (Nat.le_of_ble_eq_true rfl) dX3_monic_11) hS (fun r6 t5 H locs h hP hS => ?_)
  exact fr_iret C hP hS h dX3_monic_14

/-! X3.commonDivisor -/
abbrev wm_X3_commonDivisor : List Cond := Cond.code yX3_commonDivisor cX3_commonDivisor 7 (some .int) :: wsL_law
def q_X3_commonDivisor_8 (post : Int32 → fcS → Prop) : Nat → Int32 → Int32 → Int32 → fcS → Prop
  | 0, _, _, _, _ => False
  | n + 1, v3, v4, v5, t => (20 ≤ v5 → (q_X3_monic t v3 (fun (r2 : Int32) (t1 : fcS) => post r2 t1))) ∧ (¬ 20 ≤ v5 → ((v4 = 0 → (q_X3_monic t v3 (fun (r4 : Int32) (t3 : fcS) => post r4 t3))) ∧ (¬ v4 = 0 → (q_X3_rest t v3 v4 (fun (r6 : Int32) (t5 : fcS) => ∀ x7 : Int32, x7 = v5 + 1 → (q_X3_commonDivisor_8 post n v4 r6 x7 t5))))))
def q_X3_commonDivisor (t : fcS) (a0 : Int32) (a1 : Int32) (post : Int32 → fcS → Prop) : Prop := ∃ n0, q_X3_commonDivisor_8 post n0 a0 a1 0 t
set_option maxHeartbeats 4000000 in
set_option maxRecDepth 100000 in
theorem k_X3_commonDivisor_8 {D : va_G} {adr : Nat → Nat} {cs : Nat → ClassId} {N : Nat} (hN : 53 ≤ N) {p : Program} {l : Launch} {e : Env} {s : State} {m : MethodId} {args : Array Value} {below : List Frame} {meth : Method} {c : Code} (C : fCx D adr cs N p s m args meth c cX3_commonDivisor 7 (some .int) RX3 wm_X3_commonDivisor) {post : Int32 → fcS → Prop} : ∀ (n : Nat) (v3 : Int32) (v4 : Int32) (v5 : Int32) (t : fcS) (H : Heap) (locs : List Loc) (ls : Array Slot), q_X3_commonDivisor_8 post n v3 v4 v5 t → va_P D vwCl (fwl adr N (fG adr cs t)) H → va_S (faN adr N) s.heap H locs → lv_has ls 7 [(0, .ref (adr 1)), (3, .int v3), (4, .int v4), (5, .int v5)] → W p l e ({ frames := 2, cells := 0, slots := 0, locals := 54 } : Room) s m args below meth c H locs 0 0 (MQ below (fQi D adr cs N post) args s 0 0 (faN adr N)) (F0 m 8 ls []) := by
  have hx := C.1.1
  have hb := C.1.2.1
  intro n
  induction n with
  | zero => intro v3 v4 v5 t H locs ls h; exact False.elim h
  | succ n ih =>
    intro v3 v4 v5 t H locs ls h hP hS hl
    unfold q_X3_commonDivisor_8 at h
    refine lv_iload hx hb dX3_commonDivisor_8 (lv_at hl 3 rfl) ?_
    refine lv_bipush (v := 20) hx hb dX3_commonDivisor_10 (by decide) ?_
    refine lv_icmp_ge (tgt := 42) hx hb dX3_commonDivisor_12 (by decide) (fun c9 => ?_) (fun c9 => ?_)
    · replace h := h.1 c9
      refine lv_aload_n hx hb dX3_commonDivisor_42 rfl (lv_at hl 0 rfl) ?_
      refine lv_iload_n hx hb dX3_commonDivisor_43 rfl (lv_at hl 1 rfl) ?_
      refine fr_ci (fr_runV (n := 1) (rest := []) C (c_X3_monic l D adr cs hN t v3 _ h) hP hS (by omega) (fG_PO adr cs t) rfl (fgV mw_16_16 mw_16_17 mw_16_18 mw_1_14 mw_16_19) rfl rfl rfl (by decide +kernel) ⟨Nat.le_of_ble_eq_true rfl, Nat.le_of_ble_eq_true rfl⟩ rfl hl.1 rfl (Nat.le_of_ble_eq_true rfl) dX3_commonDivisor_44) hS (fun r2 t1 H locs h hP hS => ?_)
      exact fr_iret C hP hS h dX3_commonDivisor_47
    · replace h := h.2 c9
      refine lv_iload hx hb dX3_commonDivisor_15 (lv_at hl 2 rfl) ?_
      refine lv_if_eq (tgt := 42) hx hb dX3_commonDivisor_17 (by decide) (fun c9 => ?_) (fun c9 => ?_)
      · replace h := h.1 c9
        refine lv_aload_n hx hb dX3_commonDivisor_42 rfl (lv_at hl 0 rfl) ?_
        refine lv_iload_n hx hb dX3_commonDivisor_43 rfl (lv_at hl 1 rfl) ?_
        refine fr_ci (fr_runV (n := 1) (rest := []) C (c_X3_monic l D adr cs hN t v3 _ h) hP hS (by omega) (fG_PO adr cs t) rfl (fgV mw_16_16 mw_16_17 mw_16_18 mw_1_14 mw_16_19) rfl rfl rfl (by decide +kernel) ⟨Nat.le_of_ble_eq_true rfl, Nat.le_of_ble_eq_true rfl⟩ rfl hl.1 rfl (Nat.le_of_ble_eq_true rfl) dX3_commonDivisor_44) hS (fun r4 t3 H locs h hP hS => ?_)
        exact fr_iret C hP hS h dX3_commonDivisor_47
      · replace h := h.2 c9
        refine lv_aload_n hx hb dX3_commonDivisor_20 rfl (lv_at hl 0 rfl) ?_
        refine lv_iload_n hx hb dX3_commonDivisor_21 rfl (lv_at hl 1 rfl) ?_
        refine lv_iload hx hb dX3_commonDivisor_22 (lv_at hl 2 rfl) ?_
        refine fr_ci (fr_runV (n := 2) (rest := []) C (c_X3_rest l D adr cs hN t v3 v4 _ h) hP hS (by omega) (fG_PO adr cs t) rfl (fgV mw_5_0 mw_5_1 mw_5_2 mw_1_14 mw_5_3) rfl rfl rfl (by decide +kernel) ⟨Nat.le_of_ble_eq_true rfl, Nat.le_of_ble_eq_true rfl⟩ rfl hl.1 rfl (Nat.le_of_ble_eq_true rfl) dX3_commonDivisor_24) hS (fun r6 t5 H locs h hP hS => ?_)
        refine lv_istore (lv' := [(6, .int r6), (0, .ref (adr 1)), (3, .int v3), (4, .int v4), (5, .int v5)]) hx hb dX3_commonDivisor_27 hl (by decide) rfl (fun ls hl => ?_)
        refine lv_iload hx hb dX3_commonDivisor_29 (lv_at hl 3 rfl) ?_
        refine lv_istore_n (lv' := [(3, .int v4), (6, .int r6), (0, .ref (adr 1)), (4, .int v4), (5, .int v5)]) hx hb dX3_commonDivisor_31 rfl hl (by decide) rfl (fun ls hl => ?_)
        refine lv_iload hx hb dX3_commonDivisor_32 (lv_at hl 1 rfl) ?_
        refine lv_istore (lv' := [(4, .int r6), (3, .int v4), (6, .int r6), (0, .ref (adr 1)), (5, .int v5)]) hx hb dX3_commonDivisor_34 hl (by decide) rfl (fun ls hl => ?_)
        obtain ⟨x7, ex7⟩ : ∃ y : Int32, y = v5 + 1 := ⟨_, rfl⟩
        replace h := h x7 ex7
        refine lv_iinc (v := x7) (lv' := [(5, .int x7), (4, .int r6), (3, .int v4), (6, .int r6), (0, .ref (adr 1))]) hx hb dX3_commonDivisor_36 hl (k := 4) rfl (by rw [ex7]; rfl) (by decide) rfl (fun ls hl => ?_)
        refine lv_goto (tgt := 8) hx hb dX3_commonDivisor_39 (by decide) ?_
        exact ih v4 r6 x7 t5 _ _ _ h hP hS (lv_sub hl [4, 2, 1, 0] rfl)

set_option maxHeartbeats 4000000 in
set_option maxRecDepth 100000 in
theorem c_X3_commonDivisor (l : Launch) (D : va_G) (adr : Nat → Nat) (cs : Nat → ClassId) {N : Nat} (hN : 53 ≤ N) (t : fcS) (a0 : Int32) (a1 : Int32) (post : Int32 → fcS → Prop) (h : q_X3_commonDivisor t a0 a1 post) : Met l yX3_commonDivisor wm_X3_commonDivisor ({ frames := 2, cells := 0, slots := 0, locals := 54 } : Room) (fcPre D adr cs N t [.ref (adr 1), .int a0, .int a1]) (fQi D adr cs N post) 0 0 (faN adr N) := by
  refine f_enter (cc := cX3_commonDivisor) (nL := 7) (ret := some .int) (lv := [(0, .ref (adr 1)), (1, .int a0), (2, .int a1)]) (own := RX3) (by decide) rfl (Nat.le_of_ble_eq_true rfl) rfl rfl ?_
  intro p e s m below meth c ls C hP hS hl
  have hx := C.1.1
  have hb := C.1.2.1
  unfold q_X3_commonDivisor at h
  refine lv_iload_n hx hb dX3_commonDivisor_0 rfl (lv_at hl 1 rfl) ?_
  refine lv_istore_n (lv' := [(3, .int a0), (0, .ref (adr 1)), (1, .int a0), (2, .int a1)]) hx hb dX3_commonDivisor_1 rfl hl (by decide) rfl (fun ls hl => ?_)
  refine lv_iload_n hx hb dX3_commonDivisor_2 rfl (lv_at hl 3 rfl) ?_
  refine lv_istore (lv' := [(4, .int a1), (3, .int a0), (0, .ref (adr 1)), (1, .int a0), (2, .int a1)]) hx hb dX3_commonDivisor_3 hl (by decide) rfl (fun ls hl => ?_)
  refine lv_iconst (v := 0) hx hb dX3_commonDivisor_5 (by decide) ?_
  refine lv_istore (lv' := [(5, .int 0), (4, .int a1), (3, .int a0), (0, .ref (adr 1)), (1, .int a0), (2, .int a1)]) hx hb dX3_commonDivisor_6 hl (by decide) rfl (fun ls hl => ?_)
  obtain ⟨n9, h⟩ := h
  exact k_X3_commonDivisor_8 hN C n9 a0 a1 0 t _ _ _ h hP hS (lv_sub hl [3, 2, 1, 0] rfl)

/-! X3.cofactor -/
abbrev wm_X3_cofactor : List Cond := Cond.code yX3_cofactor cX3_cofactor 11 (some .int) :: wsL_law
def q_X3_cofactor_14 (post : Int32 → fcS → Prop) : Nat → Int32 → Int32 → Int32 → Int32 → Int32 → fcS → Prop
  | 0, _, _, _, _, _, _ => False
  | n + 1, v3, v4, v5, v6, v7, t => (20 ≤ v7 → (q_X3_lead t v3 (fun (r2 : Int32) (t1 : fcS) => q_X3_inverse t1 r2 (fun (r4 : Int32) (t3 : fcS) => q_X3_scaled t3 v5 r4 (fun (r6 : Int32) (t5 : fcS) => post r6 t5))))) ∧ (¬ 20 ≤ v7 → ((v4 = 0 → (q_X3_lead t v3 (fun (r8 : Int32) (t7 : fcS) => q_X3_inverse t7 r8 (fun (r10 : Int32) (t9 : fcS) => q_X3_scaled t9 v5 r10 (fun (r12 : Int32) (t11 : fcS) => post r12 t11))))) ∧ (¬ v4 = 0 → (q_X3_quotient t v3 v4 (fun (r14 : Int32) (t13 : fcS) => q_X3_product t13 r14 v4 (fun (r16 : Int32) (t15 : fcS) => q_X3_difference t15 v3 r16 (fun (r18 : Int32) (t17 : fcS) => q_X3_product t17 r14 v6 (fun (r20 : Int32) (t19 : fcS) => q_X3_difference t19 v5 r20 (fun (r22 : Int32) (t21 : fcS) => ∀ x23 : Int32, x23 = v7 + 1 → (q_X3_cofactor_14 post n v4 r18 v6 r22 x23 t21))))))))))
def q_X3_cofactor (t : fcS) (a0 : Int32) (a1 : Int32) (post : Int32 → fcS → Prop) : Prop := ∃ n0, q_X3_cofactor_14 post n0 a0 a1 1 0 0 t
set_option maxHeartbeats 4000000 in
set_option maxRecDepth 100000 in
theorem k_X3_cofactor_14 {D : va_G} {adr : Nat → Nat} {cs : Nat → ClassId} {N : Nat} (hN : 53 ≤ N) {p : Program} {l : Launch} {e : Env} {s : State} {m : MethodId} {args : Array Value} {below : List Frame} {meth : Method} {c : Code} (C : fCx D adr cs N p s m args meth c cX3_cofactor 11 (some .int) RX3 wm_X3_cofactor) {post : Int32 → fcS → Prop} : ∀ (n : Nat) (v3 : Int32) (v4 : Int32) (v5 : Int32) (v6 : Int32) (v7 : Int32) (t : fcS) (H : Heap) (locs : List Loc) (ls : Array Slot), q_X3_cofactor_14 post n v3 v4 v5 v6 v7 t → va_P D vwCl (fwl adr N (fG adr cs t)) H → va_S (faN adr N) s.heap H locs → lv_has ls 11 [(0, .ref (adr 1)), (3, .int v3), (4, .int v4), (5, .int v5), (6, .int v6), (7, .int v7)] → W p l e ({ frames := 2, cells := 0, slots := 0, locals := 55 } : Room) s m args below meth c H locs 0 0 (MQ below (fQi D adr cs N post) args s 0 0 (faN adr N)) (F0 m 14 ls []) := by
  have hx := C.1.1
  have hb := C.1.2.1
  intro n
  induction n with
  | zero => intro v3 v4 v5 v6 v7 t H locs ls h; exact False.elim h
  | succ n ih =>
    intro v3 v4 v5 v6 v7 t H locs ls h hP hS hl
    unfold q_X3_cofactor_14 at h
    refine lv_iload hx hb dX3_cofactor_14 (lv_at hl 5 rfl) ?_
    refine lv_bipush (v := 20) hx hb dX3_cofactor_16 (by decide) ?_
    refine lv_icmp_ge (tgt := 87) hx hb dX3_cofactor_18 (by decide) (fun c9 => ?_) (fun c9 => ?_)
    · replace h := h.1 c9
      refine lv_aload_n hx hb dX3_cofactor_87 rfl (lv_at hl 0 rfl) ?_
      refine lv_iload hx hb dX3_cofactor_88 (lv_at hl 3 rfl) ?_
      refine lv_aload_n hx hb dX3_cofactor_90 rfl (lv_at hl 0 rfl) ?_
      refine lv_aload_n hx hb dX3_cofactor_91 rfl (lv_at hl 0 rfl) ?_
      refine lv_iload_n hx hb dX3_cofactor_92 rfl (lv_at hl 1 rfl) ?_
      refine fr_ci (fr_runV (n := 1) (rest := [.ref (adr 1), .int v5, .ref (adr 1)]) C (c_X3_lead l D adr cs hN t v3 _ h) hP hS (by omega) (fG_PO adr cs t) rfl (fgV mw_5_8 mw_5_9 mw_5_10 mw_1_14 mw_5_11) rfl rfl rfl (by decide +kernel) ⟨Nat.le_of_ble_eq_true rfl, Nat.le_of_ble_eq_true rfl⟩ rfl hl.1 rfl (Nat.le_of_ble_eq_true rfl) dX3_cofactor_93) hS (fun r2 t1 H locs h hP hS => ?_)
      refine fr_ci (fr_runV (n := 1) (rest := [.int v5, .ref (adr 1)]) C (c_X3_inverse l D adr cs hN t1 r2 _ h) hP hS (by omega) (fG_PO adr cs t1) rfl (fgV mw_5_12 mw_5_13 mw_5_14 mw_1_14 mw_5_15) rfl rfl rfl (by decide +kernel) ⟨Nat.le_of_ble_eq_true rfl, Nat.le_of_ble_eq_true rfl⟩ rfl hl.1 rfl (Nat.le_of_ble_eq_true rfl) dX3_cofactor_96) hS (fun r4 t3 H locs h hP hS => ?_)
      refine fr_ci (fr_runV (n := 2) (rest := []) C (c_X3_scaled l D adr cs hN t3 v5 r4 _ h) hP hS (by omega) (fG_PO adr cs t3) rfl (fgV mw_5_20 mw_5_21 mw_5_22 mw_1_14 mw_5_23) rfl rfl rfl (by decide +kernel) ⟨Nat.le_of_ble_eq_true rfl, Nat.le_of_ble_eq_true rfl⟩ rfl hl.1 rfl (Nat.le_of_ble_eq_true rfl) dX3_cofactor_99) hS (fun r6 t5 H locs h hP hS => ?_)
      exact fr_iret C hP hS h dX3_cofactor_102
    · replace h := h.2 c9
      refine lv_iload hx hb dX3_cofactor_21 (lv_at hl 2 rfl) ?_
      refine lv_if_eq (tgt := 87) hx hb dX3_cofactor_23 (by decide) (fun c9 => ?_) (fun c9 => ?_)
      · replace h := h.1 c9
        refine lv_aload_n hx hb dX3_cofactor_87 rfl (lv_at hl 0 rfl) ?_
        refine lv_iload hx hb dX3_cofactor_88 (lv_at hl 3 rfl) ?_
        refine lv_aload_n hx hb dX3_cofactor_90 rfl (lv_at hl 0 rfl) ?_
        refine lv_aload_n hx hb dX3_cofactor_91 rfl (lv_at hl 0 rfl) ?_
        refine lv_iload_n hx hb dX3_cofactor_92 rfl (lv_at hl 1 rfl) ?_
        refine fr_ci (fr_runV (n := 1) (rest := [.ref (adr 1), .int v5, .ref (adr 1)]) C (c_X3_lead l D adr cs hN t v3 _ h) hP hS (by omega) (fG_PO adr cs t) rfl (fgV mw_5_8 mw_5_9 mw_5_10 mw_1_14 mw_5_11) rfl rfl rfl (by decide +kernel) ⟨Nat.le_of_ble_eq_true rfl, Nat.le_of_ble_eq_true rfl⟩ rfl hl.1 rfl (Nat.le_of_ble_eq_true rfl) dX3_cofactor_93) hS (fun r8 t7 H locs h hP hS => ?_)
        refine fr_ci (fr_runV (n := 1) (rest := [.int v5, .ref (adr 1)]) C (c_X3_inverse l D adr cs hN t7 r8 _ h) hP hS (by omega) (fG_PO adr cs t7) rfl (fgV mw_5_12 mw_5_13 mw_5_14 mw_1_14 mw_5_15) rfl rfl rfl (by decide +kernel) ⟨Nat.le_of_ble_eq_true rfl, Nat.le_of_ble_eq_true rfl⟩ rfl hl.1 rfl (Nat.le_of_ble_eq_true rfl) dX3_cofactor_96) hS (fun r10 t9 H locs h hP hS => ?_)
        refine fr_ci (fr_runV (n := 2) (rest := []) C (c_X3_scaled l D adr cs hN t9 v5 r10 _ h) hP hS (by omega) (fG_PO adr cs t9) rfl (fgV mw_5_20 mw_5_21 mw_5_22 mw_1_14 mw_5_23) rfl rfl rfl (by decide +kernel) ⟨Nat.le_of_ble_eq_true rfl, Nat.le_of_ble_eq_true rfl⟩ rfl hl.1 rfl (Nat.le_of_ble_eq_true rfl) dX3_cofactor_99) hS (fun r12 t11 H locs h hP hS => ?_)
        exact fr_iret C hP hS h dX3_cofactor_102
      · replace h := h.2 c9
        refine lv_aload_n hx hb dX3_cofactor_26 rfl (lv_at hl 0 rfl) ?_
        refine lv_iload_n hx hb dX3_cofactor_27 rfl (lv_at hl 1 rfl) ?_
        refine lv_iload hx hb dX3_cofactor_28 (lv_at hl 2 rfl) ?_
        refine fr_ci (fr_runV (n := 2) (rest := []) C (c_X3_quotient l D adr cs hN t v3 v4 _ h) hP hS (by omega) (fG_PO adr cs t) rfl (fgV mw_31_3 mw_31_4 mw_31_5 mw_1_14 mw_31_6) rfl rfl rfl (by decide +kernel) ⟨Nat.le_of_ble_eq_true rfl, Nat.le_of_ble_eq_true rfl⟩ rfl hl.1 rfl (Nat.le_of_ble_eq_true rfl) dX3_cofactor_30) hS (fun r14 t13 H locs h hP hS => ?_)
        refine lv_istore (lv' := [(8, .int r14), (0, .ref (adr 1)), (3, .int v3), (4, .int v4), (5, .int v5), (6, .int v6), (7, .int v7)]) hx hb dX3_cofactor_33 hl (by decide) rfl (fun ls hl => ?_)
        refine lv_aload_n hx hb dX3_cofactor_35 rfl (lv_at hl 1 rfl) ?_
        refine lv_iload_n hx hb dX3_cofactor_36 rfl (lv_at hl 2 rfl) ?_
        refine lv_aload_n hx hb dX3_cofactor_37 rfl (lv_at hl 1 rfl) ?_
        refine lv_iload hx hb dX3_cofactor_38 (lv_at hl 0 rfl) ?_
        refine lv_iload hx hb dX3_cofactor_40 (lv_at hl 3 rfl) ?_
        refine fr_ci (fr_runV (n := 2) (rest := [.int v3, .ref (adr 1)]) C (c_X3_product l D adr cs hN t13 r14 v4 _ h) hP hS (by omega) (fG_PO adr cs t13) rfl (fgV mw_17_14 mw_6_11 mw_6_12 mw_1_14 mw_6_13) rfl rfl rfl (by decide +kernel) ⟨Nat.le_of_ble_eq_true rfl, Nat.le_of_ble_eq_true rfl⟩ rfl hl.1 rfl (Nat.le_of_ble_eq_true rfl) dX3_cofactor_42) hS (fun r16 t15 H locs h hP hS => ?_)
        refine fr_ci (fr_runV (n := 2) (rest := []) C (c_X3_difference l D adr cs hN t15 v3 r16 _ h) hP hS (by omega) (fG_PO adr cs t15) rfl (fgV mw_6_0 mw_6_1 mw_6_2 mw_1_14 mw_6_3) rfl rfl rfl (by decide +kernel) ⟨Nat.le_of_ble_eq_true rfl, Nat.le_of_ble_eq_true rfl⟩ rfl hl.1 rfl (Nat.le_of_ble_eq_true rfl) dX3_cofactor_45) hS (fun r18 t17 H locs h hP hS => ?_)
        refine lv_istore (lv' := [(9, .int r18), (8, .int r14), (0, .ref (adr 1)), (3, .int v3), (4, .int v4), (5, .int v5), (6, .int v6), (7, .int v7)]) hx hb dX3_cofactor_48 hl (by decide) rfl (fun ls hl => ?_)
        refine lv_aload_n hx hb dX3_cofactor_50 rfl (lv_at hl 2 rfl) ?_
        refine lv_iload hx hb dX3_cofactor_51 (lv_at hl 5 rfl) ?_
        refine lv_aload_n hx hb dX3_cofactor_53 rfl (lv_at hl 2 rfl) ?_
        refine lv_iload hx hb dX3_cofactor_54 (lv_at hl 1 rfl) ?_
        refine lv_iload hx hb dX3_cofactor_56 (lv_at hl 6 rfl) ?_
        refine fr_ci (fr_runV (n := 2) (rest := [.int v5, .ref (adr 1)]) C (c_X3_product l D adr cs hN t17 r14 v6 _ h) hP hS (by omega) (fG_PO adr cs t17) rfl (fgV mw_17_14 mw_6_11 mw_6_12 mw_1_14 mw_6_13) rfl rfl rfl (by decide +kernel) ⟨Nat.le_of_ble_eq_true rfl, Nat.le_of_ble_eq_true rfl⟩ rfl hl.1 rfl (Nat.le_of_ble_eq_true rfl) dX3_cofactor_58) hS (fun r20 t19 H locs h hP hS => ?_)
        refine fr_ci (fr_runV (n := 2) (rest := []) C (c_X3_difference l D adr cs hN t19 v5 r20 _ h) hP hS (by omega) (fG_PO adr cs t19) rfl (fgV mw_6_0 mw_6_1 mw_6_2 mw_1_14 mw_6_3) rfl rfl rfl (by decide +kernel) ⟨Nat.le_of_ble_eq_true rfl, Nat.le_of_ble_eq_true rfl⟩ rfl hl.1 rfl (Nat.le_of_ble_eq_true rfl) dX3_cofactor_61) hS (fun r22 t21 H locs h hP hS => ?_)
        refine lv_istore (lv' := [(10, .int r22), (9, .int r18), (8, .int r14), (0, .ref (adr 1)), (3, .int v3), (4, .int v4), (5, .int v5), (6, .int v6), (7, .int v7)]) hx hb dX3_cofactor_64 hl (by decide) rfl (fun ls hl => ?_)
        refine lv_iload hx hb dX3_cofactor_66 (lv_at hl 5 rfl) ?_
        refine lv_istore_n (lv' := [(3, .int v4), (10, .int r22), (9, .int r18), (8, .int r14), (0, .ref (adr 1)), (4, .int v4), (5, .int v5), (6, .int v6), (7, .int v7)]) hx hb dX3_cofactor_68 rfl hl (by decide) rfl (fun ls hl => ?_)
        refine lv_iload hx hb dX3_cofactor_69 (lv_at hl 2 rfl) ?_
        refine lv_istore (lv' := [(4, .int r18), (3, .int v4), (10, .int r22), (9, .int r18), (8, .int r14), (0, .ref (adr 1)), (5, .int v5), (6, .int v6), (7, .int v7)]) hx hb dX3_cofactor_71 hl (by decide) rfl (fun ls hl => ?_)
        refine lv_iload hx hb dX3_cofactor_73 (lv_at hl 7 rfl) ?_
        refine lv_istore (lv' := [(5, .int v6), (4, .int r18), (3, .int v4), (10, .int r22), (9, .int r18), (8, .int r14), (0, .ref (adr 1)), (6, .int v6), (7, .int v7)]) hx hb dX3_cofactor_75 hl (by decide) rfl (fun ls hl => ?_)
        refine lv_iload hx hb dX3_cofactor_77 (lv_at hl 3 rfl) ?_
        refine lv_istore (lv' := [(6, .int r22), (5, .int v6), (4, .int r18), (3, .int v4), (10, .int r22), (9, .int r18), (8, .int r14), (0, .ref (adr 1)), (7, .int v7)]) hx hb dX3_cofactor_79 hl (by decide) rfl (fun ls hl => ?_)
        obtain ⟨x23, ex23⟩ : ∃ y : Int32, y = v7 + 1 := ⟨_, rfl⟩
        replace h := h x23 ex23
        refine lv_iinc (v := x23) (lv' := [(7, .int x23), (6, .int r22), (5, .int v6), (4, .int r18), (3, .int v4), (10, .int r22), (9, .int r18), (8, .int r14), (0, .ref (adr 1))]) hx hb dX3_cofactor_81 hl (k := 8) rfl (by rw [ex23]; rfl) (by decide) rfl (fun ls hl => ?_)
        refine lv_goto (tgt := 14) hx hb dX3_cofactor_84 (by decide) ?_
        exact ih v4 r18 v6 r22 x23 t21 _ _ _ h hP hS (lv_sub hl [8, 4, 3, 2, 1, 0] rfl)

set_option maxHeartbeats 4000000 in
set_option maxRecDepth 100000 in
theorem c_X3_cofactor (l : Launch) (D : va_G) (adr : Nat → Nat) (cs : Nat → ClassId) {N : Nat} (hN : 53 ≤ N) (t : fcS) (a0 : Int32) (a1 : Int32) (post : Int32 → fcS → Prop) (h : q_X3_cofactor t a0 a1 post) : Met l yX3_cofactor wm_X3_cofactor ({ frames := 2, cells := 0, slots := 0, locals := 55 } : Room) (fcPre D adr cs N t [.ref (adr 1), .int a0, .int a1]) (fQi D adr cs N post) 0 0 (faN adr N) := by
  refine f_enter (cc := cX3_cofactor) (nL := 11) (ret := some .int) (lv := [(0, .ref (adr 1)), (1, .int a0), (2, .int a1)]) (own := RX3) (by decide) rfl (Nat.le_of_ble_eq_true rfl) rfl rfl ?_
  intro p e s m below meth c ls C hP hS hl
  have hx := C.1.1
  have hb := C.1.2.1
  unfold q_X3_cofactor at h
  refine lv_iload_n hx hb dX3_cofactor_0 rfl (lv_at hl 1 rfl) ?_
  refine lv_istore_n (lv' := [(3, .int a0), (0, .ref (adr 1)), (1, .int a0), (2, .int a1)]) hx hb dX3_cofactor_1 rfl hl (by decide) rfl (fun ls hl => ?_)
  refine lv_iload_n hx hb dX3_cofactor_2 rfl (lv_at hl 3 rfl) ?_
  refine lv_istore (lv' := [(4, .int a1), (3, .int a0), (0, .ref (adr 1)), (1, .int a0), (2, .int a1)]) hx hb dX3_cofactor_3 hl (by decide) rfl (fun ls hl => ?_)
  refine lv_iconst (v := 1) hx hb dX3_cofactor_5 (by decide) ?_
  refine lv_istore (lv' := [(5, .int 1), (4, .int a1), (3, .int a0), (0, .ref (adr 1)), (1, .int a0), (2, .int a1)]) hx hb dX3_cofactor_6 hl (by decide) rfl (fun ls hl => ?_)
  refine lv_iconst (v := 0) hx hb dX3_cofactor_8 (by decide) ?_
  refine lv_istore (lv' := [(6, .int 0), (5, .int 1), (4, .int a1), (3, .int a0), (0, .ref (adr 1)), (1, .int a0), (2, .int a1)]) hx hb dX3_cofactor_9 hl (by decide) rfl (fun ls hl => ?_)
  refine lv_iconst (v := 0) hx hb dX3_cofactor_11 (by decide) ?_
  refine lv_istore (lv' := [(7, .int 0), (6, .int 0), (5, .int 1), (4, .int a1), (3, .int a0), (0, .ref (adr 1)), (1, .int a0), (2, .int a1)]) hx hb dX3_cofactor_12 hl (by decide) rfl (fun ls hl => ?_)
  obtain ⟨n9, h⟩ := h
  exact k_X3_cofactor_14 hN C n9 a0 a1 1 0 0 t _ _ _ h hP hS (lv_sub hl [5, 4, 3, 2, 1, 0] rfl)

/-! X3.derivative -/
abbrev wm_X3_derivative : List Cond := Cond.code yX3_derivative cX3_derivative 4 (some .int) :: wsL_law
def q_X3_derivative_8 (post : Int32 → fcS → Prop) : Nat → Int32 → Int32 → Int32 → fcS → Prop
  | 0, _, _, _, _ => False
  | n + 1, v1, v2, v3, t => (v3 ≤ 0 → (post v2 t)) ∧ (¬ v3 ≤ 0 → (q_X3_coefficient t v1 v3 (fun (r4 : Int32) (t3 : fcS) => (¬ ((fgi t3 1 0) : Int32) = 0) ∧ (q_X3_place t3 ((v3 - 1)) (fun (r6 : Int32) (t5 : fcS) => ∀ x7 : Int32, x7 = (v2 + ((irm ((r4 * v3)) ((fgi t3 1 0))) * r6)) → (∀ x8 : Int32, x8 = v3 + (-1) → (q_X3_derivative_8 post n v1 x7 x8 t5)))))))
def q_X3_derivative (t : fcS) (a0 : Int32) (post : Int32 → fcS → Prop) : Prop := q_X3_degree t a0 (fun (r2 : Int32) (t1 : fcS) => ∃ n0, q_X3_derivative_8 post n0 a0 0 r2 t1)
set_option maxHeartbeats 4000000 in
set_option maxRecDepth 100000 in
theorem k_X3_derivative_8 {D : va_G} {adr : Nat → Nat} {cs : Nat → ClassId} {N : Nat} (hN : 53 ≤ N) {p : Program} {l : Launch} {e : Env} {s : State} {m : MethodId} {args : Array Value} {below : List Frame} {meth : Method} {c : Code} (C : fCx D adr cs N p s m args meth c cX3_derivative 4 (some .int) RX3 wm_X3_derivative) {post : Int32 → fcS → Prop} : ∀ (n : Nat) (v1 : Int32) (v2 : Int32) (v3 : Int32) (t : fcS) (H : Heap) (locs : List Loc) (ls : Array Slot), q_X3_derivative_8 post n v1 v2 v3 t → va_P D vwCl (fwl adr N (fG adr cs t)) H → va_S (faN adr N) s.heap H locs → lv_has ls 4 [(0, .ref (adr 1)), (1, .int v1), (2, .int v2), (3, .int v3)] → W p l e ({ frames := 1, cells := 0, slots := 0, locals := 24 } : Room) s m args below meth c H locs 0 0 (MQ below (fQi D adr cs N post) args s 0 0 (faN adr N)) (F0 m 8 ls []) := by
  have hx := C.1.1
  have hb := C.1.2.1
  intro n
  induction n with
  | zero => intro v1 v2 v3 t H locs ls h; exact False.elim h
  | succ n ih =>
    intro v1 v2 v3 t H locs ls h hP hS hl
    unfold q_X3_derivative_8 at h
    refine lv_iload_n hx hb dX3_derivative_8 rfl (lv_at hl 3 rfl) ?_
    refine lv_if_le (tgt := 42) hx hb dX3_derivative_9 (by decide) (fun c9 => ?_) (fun c9 => ?_)
    · replace h := h.1 c9
      refine lv_iload_n hx hb dX3_derivative_42 rfl (lv_at hl 2 rfl) ?_
      exact fr_iret C hP hS h dX3_derivative_43
    · replace h := h.2 c9
      refine lv_iload_n hx hb dX3_derivative_12 rfl (lv_at hl 2 rfl) ?_
      refine lv_aload_n hx hb dX3_derivative_13 rfl (lv_at hl 0 rfl) ?_
      refine lv_iload_n hx hb dX3_derivative_14 rfl (lv_at hl 1 rfl) ?_
      refine lv_iload_n hx hb dX3_derivative_15 rfl (lv_at hl 3 rfl) ?_
      refine fr_ci (fr_runV (n := 2) (rest := [.int v2]) C (c_X3_coefficient l D adr cs hN t v1 v3 _ h) hP hS (by omega) (fG_PO adr cs t) rfl (fgV mw_5_16 mw_5_17 mw_5_18 mw_1_14 mw_5_19) rfl rfl rfl (by decide +kernel) ⟨Nat.le_of_ble_eq_true rfl, Nat.le_of_ble_eq_true rfl⟩ rfl hl.1 rfl (Nat.le_of_ble_eq_true rfl) dX3_derivative_16) hS (fun r4 t3 H locs h hP hS => ?_)
      refine lv_iload_n hx hb dX3_derivative_19 rfl (lv_at hl 3 rfl) ?_
      refine lv_imul hx hb dX3_derivative_20 ?_
      refine lv_aload_n hx hb dX3_derivative_21 rfl (lv_at hl 0 rfl) ?_
      refine fr_get (j := 0) C hP (by omega) (fG_PO adr cs t3) rfl (fun w h => List.mem_cons_of_mem _ (inl_X3 w h)) (by decide) rfl (List.mem_cons_of_mem _ mw_2_8) rfl dX3_derivative_22 ?_
      refine lv_irem hx hb dX3_derivative_25 h.1 ?_
      replace h := h.2
      refine lv_aload_n hx hb dX3_derivative_26 rfl (lv_at hl 0 rfl) ?_
      refine lv_iload_n hx hb dX3_derivative_27 rfl (lv_at hl 3 rfl) ?_
      refine lv_iconst (v := 1) hx hb dX3_derivative_28 (by decide) ?_
      refine lv_isub hx hb dX3_derivative_29 ?_
      refine fr_ci (fr_runV (n := 1) (rest := [.int ((irm ((r4 * v3)) ((fgi t3 1 0)))), .int v2]) C (c_X3_place l D adr cs hN t3 ((v3 - 1)) _ h) hP hS (by omega) (fG_PO adr cs t3) rfl (fgV mw_4_23 mw_4_6 mw_4_7 mw_1_14 mw_4_8) rfl rfl rfl (by decide +kernel) ⟨Nat.le_of_ble_eq_true rfl, Nat.le_of_ble_eq_true rfl⟩ rfl hl.1 rfl (Nat.le_of_ble_eq_true rfl) dX3_derivative_30) hS (fun r6 t5 H locs h hP hS => ?_)
      refine lv_imul hx hb dX3_derivative_33 ?_
      refine lv_iadd hx hb dX3_derivative_34 ?_
      refine lv_topi (fun x7 ex7 => ?_)
      replace h := h x7 ex7
      refine lv_istore_n (lv' := [(2, .int x7), (0, .ref (adr 1)), (1, .int v1), (3, .int v3)]) hx hb dX3_derivative_35 rfl hl (by decide) rfl (fun ls hl => ?_)
      obtain ⟨x8, ex8⟩ : ∃ y : Int32, y = v3 + (-1) := ⟨_, rfl⟩
      replace h := h x8 ex8
      refine lv_iinc (v := x8) (lv' := [(3, .int x8), (2, .int x7), (0, .ref (adr 1)), (1, .int v1)]) hx hb dX3_derivative_36 hl (k := 3) rfl (by rw [ex8]; rfl) (by decide) rfl (fun ls hl => ?_)
      refine lv_goto (tgt := 8) hx hb dX3_derivative_39 (by decide) ?_
      exact ih v1 x7 x8 t5 _ _ _ h hP hS (lv_sub hl [2, 3, 1, 0] rfl)

set_option maxHeartbeats 4000000 in
set_option maxRecDepth 100000 in
theorem c_X3_derivative (l : Launch) (D : va_G) (adr : Nat → Nat) (cs : Nat → ClassId) {N : Nat} (hN : 53 ≤ N) (t : fcS) (a0 : Int32) (post : Int32 → fcS → Prop) (h : q_X3_derivative t a0 post) : Met l yX3_derivative wm_X3_derivative ({ frames := 1, cells := 0, slots := 0, locals := 24 } : Room) (fcPre D adr cs N t [.ref (adr 1), .int a0]) (fQi D adr cs N post) 0 0 (faN adr N) := by
  refine f_enter (cc := cX3_derivative) (nL := 4) (ret := some .int) (lv := [(0, .ref (adr 1)), (1, .int a0)]) (own := RX3) (by decide) rfl (Nat.le_of_ble_eq_true rfl) rfl rfl ?_
  intro p e s m below meth c ls C hP hS hl
  have hx := C.1.1
  have hb := C.1.2.1
  unfold q_X3_derivative at h
  refine lv_iconst (v := 0) hx hb dX3_derivative_0 (by decide) ?_
  refine lv_istore_n (lv' := [(2, .int 0), (0, .ref (adr 1)), (1, .int a0)]) hx hb dX3_derivative_1 rfl hl (by decide) rfl (fun ls hl => ?_)
  refine lv_aload_n hx hb dX3_derivative_2 rfl (lv_at hl 1 rfl) ?_
  refine lv_iload_n hx hb dX3_derivative_3 rfl (lv_at hl 2 rfl) ?_
  refine fr_ci (fr_runV (n := 1) (rest := []) C (c_X3_degree l D adr cs hN t a0 _ h) hP hS (by omega) (fG_PO adr cs t) rfl (fgV mw_5_4 mw_5_5 mw_5_6 mw_1_14 mw_5_7) rfl rfl rfl (by decide +kernel) ⟨Nat.le_of_ble_eq_true rfl, Nat.le_of_ble_eq_true rfl⟩ rfl hl.1 rfl (Nat.le_of_ble_eq_true rfl) dX3_derivative_4) hS (fun r2 t1 H locs h hP hS => ?_)
  refine lv_istore_n (lv' := [(3, .int r2), (2, .int 0), (0, .ref (adr 1)), (1, .int a0)]) hx hb dX3_derivative_7 rfl hl (by decide) rfl (fun ls hl => ?_)
  obtain ⟨n9, h⟩ := h
  exact k_X3_derivative_8 hN C n9 a0 0 r2 t1 _ _ _ h hP hS (lv_sub hl [2, 3, 1, 0] rfl)

/-! X3.knotOf -/
abbrev wm_X3_knotOf : List Cond := Cond.code yX3_knotOf cX3_knotOf 2 (some .int) :: wsL_law
def q_X3_knotOf (t : fcS) (a0 : Int32) (post : Int32 → fcS → Prop) : Prop := q_X3_derivative t a0 (fun (r2 : Int32) (t1 : fcS) => q_X3_commonDivisor t1 a0 r2 (fun (r4 : Int32) (t3 : fcS) => post r4 t3))
set_option maxHeartbeats 4000000 in
set_option maxRecDepth 100000 in
theorem c_X3_knotOf (l : Launch) (D : va_G) (adr : Nat → Nat) (cs : Nat → ClassId) {N : Nat} (hN : 53 ≤ N) (t : fcS) (a0 : Int32) (post : Int32 → fcS → Prop) (h : q_X3_knotOf t a0 post) : Met l yX3_knotOf wm_X3_knotOf ({ frames := 3, cells := 0, slots := 0, locals := 80 } : Room) (fcPre D adr cs N t [.ref (adr 1), .int a0]) (fQi D adr cs N post) 0 0 (faN adr N) := by
  refine f_enter (cc := cX3_knotOf) (nL := 2) (ret := some .int) (lv := [(0, .ref (adr 1)), (1, .int a0)]) (own := RX3) (by decide) rfl (Nat.le_of_ble_eq_true rfl) rfl rfl ?_
  intro p e s m below meth c ls C hP hS hl
  have hx := C.1.1
  have hb := C.1.2.1
  unfold q_X3_knotOf at h
  refine lv_aload_n hx hb dX3_knotOf_0 rfl (lv_at hl 0 rfl) ?_
  refine lv_iload_n hx hb dX3_knotOf_1 rfl (lv_at hl 1 rfl) ?_
  refine lv_aload_n hx hb dX3_knotOf_2 rfl (lv_at hl 0 rfl) ?_
  refine lv_iload_n hx hb dX3_knotOf_3 rfl (lv_at hl 1 rfl) ?_
  refine fr_ci (fr_runV (n := 1) (rest := [.int a0, .ref (adr 1)]) C (c_X3_derivative l D adr cs hN t a0 _ h) hP hS (by omega) (fG_PO adr cs t) rfl (fgV mw_16_8 mw_16_9 mw_16_10 mw_1_14 mw_16_11) rfl rfl rfl (by decide +kernel) ⟨Nat.le_of_ble_eq_true rfl, Nat.le_of_ble_eq_true rfl⟩ rfl hl.1 rfl (Nat.le_of_ble_eq_true rfl) dX3_knotOf_4) hS (fun r2 t1 H locs h hP hS => ?_)
  refine fr_ci (fr_runV (n := 2) (rest := []) C (c_X3_commonDivisor l D adr cs hN t1 a0 r2 _ h) hP hS (by omega) (fG_PO adr cs t1) rfl (fgV mw_16_12 mw_16_13 mw_16_14 mw_1_14 mw_16_15) rfl rfl rfl (by decide +kernel) ⟨Nat.le_of_ble_eq_true rfl, Nat.le_of_ble_eq_true rfl⟩ rfl hl.1 rfl (Nat.le_of_ble_eq_true rfl) dX3_knotOf_7) hS (fun r4 t3 H locs h hP hS => ?_)
  exact fr_iret C hP hS h dX3_knotOf_10

/-! X3.movedBy -/
abbrev wm_X3_movedBy : List Cond := Cond.code yX3_movedBy cX3_movedBy 5 (some .int) :: wsL_law
def q_X3_movedBy_9 (post : Int32 → fcS → Prop) : Nat → Int32 → Int32 → Int32 → Int32 → fcS → Prop
  | 0, _, _, _, _, _ => False
  | n + 1, v1, v2, v3, v4, t => (v4 < 0 → (post v3 t)) ∧ (¬ v4 < 0 → (q_X3_product t v3 (((fgi t 1 0) + v2)) (fun (r4 : Int32) (t3 : fcS) => q_X3_coefficient t3 v1 v4 (fun (r6 : Int32) (t5 : fcS) => q_X3_sum t5 r4 r6 (fun (r8 : Int32) (t7 : fcS) => ∀ x9 : Int32, x9 = v4 + (-1) → (q_X3_movedBy_9 post n v1 v2 r8 x9 t7))))))
def q_X3_movedBy (t : fcS) (a0 : Int32) (a1 : Int32) (post : Int32 → fcS → Prop) : Prop := q_X3_degree t a0 (fun (r2 : Int32) (t1 : fcS) => ∃ n0, q_X3_movedBy_9 post n0 a0 a1 0 r2 t1)
set_option maxHeartbeats 4000000 in
set_option maxRecDepth 100000 in
theorem k_X3_movedBy_9 {D : va_G} {adr : Nat → Nat} {cs : Nat → ClassId} {N : Nat} (hN : 53 ≤ N) {p : Program} {l : Launch} {e : Env} {s : State} {m : MethodId} {args : Array Value} {below : List Frame} {meth : Method} {c : Code} (C : fCx D adr cs N p s m args meth c cX3_movedBy 5 (some .int) RX3 wm_X3_movedBy) {post : Int32 → fcS → Prop} : ∀ (n : Nat) (v1 : Int32) (v2 : Int32) (v3 : Int32) (v4 : Int32) (t : fcS) (H : Heap) (locs : List Loc) (ls : Array Slot), q_X3_movedBy_9 post n v1 v2 v3 v4 t → va_P D vwCl (fwl adr N (fG adr cs t)) H → va_S (faN adr N) s.heap H locs → lv_has ls 5 [(0, .ref (adr 1)), (1, .int v1), (2, .int v2), (3, .int v3), (4, .int v4)] → W p l e ({ frames := 2, cells := 0, slots := 0, locals := 53 } : Room) s m args below meth c H locs 0 0 (MQ below (fQi D adr cs N post) args s 0 0 (faN adr N)) (F0 m 9 ls []) := by
  have hx := C.1.1
  have hb := C.1.2.1
  intro n
  induction n with
  | zero => intro v1 v2 v3 v4 t H locs ls h; exact False.elim h
  | succ n ih =>
    intro v1 v2 v3 v4 t H locs ls h hP hS hl
    unfold q_X3_movedBy_9 at h
    refine lv_iload hx hb dX3_movedBy_9 (lv_at hl 4 rfl) ?_
    refine lv_if_lt (tgt := 43) hx hb dX3_movedBy_11 (by decide) (fun c9 => ?_) (fun c9 => ?_)
    · replace h := h.1 c9
      refine lv_iload_n hx hb dX3_movedBy_43 rfl (lv_at hl 3 rfl) ?_
      exact fr_iret C hP hS h dX3_movedBy_44
    · replace h := h.2 c9
      refine lv_aload_n hx hb dX3_movedBy_14 rfl (lv_at hl 0 rfl) ?_
      refine lv_aload_n hx hb dX3_movedBy_15 rfl (lv_at hl 0 rfl) ?_
      refine lv_iload_n hx hb dX3_movedBy_16 rfl (lv_at hl 3 rfl) ?_
      refine lv_aload_n hx hb dX3_movedBy_17 rfl (lv_at hl 0 rfl) ?_
      refine fr_get (j := 0) C hP (by omega) (fG_PO adr cs t) rfl (fun w h => List.mem_cons_of_mem _ (inl_X3 w h)) (by decide) rfl (List.mem_cons_of_mem _ mw_2_8) rfl dX3_movedBy_18 ?_
      refine lv_iload_n hx hb dX3_movedBy_21 rfl (lv_at hl 2 rfl) ?_
      refine lv_iadd hx hb dX3_movedBy_22 ?_
      refine fr_ci (fr_runV (n := 2) (rest := [.ref (adr 1)]) C (c_X3_product l D adr cs hN t v3 (((fgi t 1 0) + v2)) _ h) hP hS (by omega) (fG_PO adr cs t) rfl (fgV mw_17_14 mw_6_11 mw_6_12 mw_1_14 mw_6_13) rfl rfl rfl (by decide +kernel) ⟨Nat.le_of_ble_eq_true rfl, Nat.le_of_ble_eq_true rfl⟩ rfl hl.1 rfl (Nat.le_of_ble_eq_true rfl) dX3_movedBy_23) hS (fun r4 t3 H locs h hP hS => ?_)
      refine lv_aload_n hx hb dX3_movedBy_26 rfl (lv_at hl 0 rfl) ?_
      refine lv_iload_n hx hb dX3_movedBy_27 rfl (lv_at hl 1 rfl) ?_
      refine lv_iload hx hb dX3_movedBy_28 (lv_at hl 4 rfl) ?_
      refine fr_ci (fr_runV (n := 2) (rest := [.int r4, .ref (adr 1)]) C (c_X3_coefficient l D adr cs hN t3 v1 v4 _ h) hP hS (by omega) (fG_PO adr cs t3) rfl (fgV mw_5_16 mw_5_17 mw_5_18 mw_1_14 mw_5_19) rfl rfl rfl (by decide +kernel) ⟨Nat.le_of_ble_eq_true rfl, Nat.le_of_ble_eq_true rfl⟩ rfl hl.1 rfl (Nat.le_of_ble_eq_true rfl) dX3_movedBy_30) hS (fun r6 t5 H locs h hP hS => ?_)
      refine fr_ci (fr_runV (n := 2) (rest := []) C (c_X3_sum l D adr cs hN t5 r4 r6 _ h) hP hS (by omega) (fG_PO adr cs t5) rfl (fgV mw_6_14 mw_6_15 mw_6_16 mw_1_14 mw_6_17) rfl rfl rfl (by decide +kernel) ⟨Nat.le_of_ble_eq_true rfl, Nat.le_of_ble_eq_true rfl⟩ rfl hl.1 rfl (Nat.le_of_ble_eq_true rfl) dX3_movedBy_33) hS (fun r8 t7 H locs h hP hS => ?_)
      refine lv_istore_n (lv' := [(3, .int r8), (0, .ref (adr 1)), (1, .int v1), (2, .int v2), (4, .int v4)]) hx hb dX3_movedBy_36 rfl hl (by decide) rfl (fun ls hl => ?_)
      obtain ⟨x9, ex9⟩ : ∃ y : Int32, y = v4 + (-1) := ⟨_, rfl⟩
      replace h := h x9 ex9
      refine lv_iinc (v := x9) (lv' := [(4, .int x9), (3, .int r8), (0, .ref (adr 1)), (1, .int v1), (2, .int v2)]) hx hb dX3_movedBy_37 hl (k := 4) rfl (by rw [ex9]; rfl) (by decide) rfl (fun ls hl => ?_)
      refine lv_goto (tgt := 9) hx hb dX3_movedBy_40 (by decide) ?_
      exact ih v1 v2 r8 x9 t7 _ _ _ h hP hS (lv_sub hl [2, 3, 4, 1, 0] rfl)

set_option maxHeartbeats 4000000 in
set_option maxRecDepth 100000 in
theorem c_X3_movedBy (l : Launch) (D : va_G) (adr : Nat → Nat) (cs : Nat → ClassId) {N : Nat} (hN : 53 ≤ N) (t : fcS) (a0 : Int32) (a1 : Int32) (post : Int32 → fcS → Prop) (h : q_X3_movedBy t a0 a1 post) : Met l yX3_movedBy wm_X3_movedBy ({ frames := 2, cells := 0, slots := 0, locals := 53 } : Room) (fcPre D adr cs N t [.ref (adr 1), .int a0, .int a1]) (fQi D adr cs N post) 0 0 (faN adr N) := by
  refine f_enter (cc := cX3_movedBy) (nL := 5) (ret := some .int) (lv := [(0, .ref (adr 1)), (1, .int a0), (2, .int a1)]) (own := RX3) (by decide) rfl (Nat.le_of_ble_eq_true rfl) rfl rfl ?_
  intro p e s m below meth c ls C hP hS hl
  have hx := C.1.1
  have hb := C.1.2.1
  unfold q_X3_movedBy at h
  refine lv_iconst (v := 0) hx hb dX3_movedBy_0 (by decide) ?_
  refine lv_istore_n (lv' := [(3, .int 0), (0, .ref (adr 1)), (1, .int a0), (2, .int a1)]) hx hb dX3_movedBy_1 rfl hl (by decide) rfl (fun ls hl => ?_)
  refine lv_aload_n hx hb dX3_movedBy_2 rfl (lv_at hl 1 rfl) ?_
  refine lv_iload_n hx hb dX3_movedBy_3 rfl (lv_at hl 2 rfl) ?_
  refine fr_ci (fr_runV (n := 1) (rest := []) C (c_X3_degree l D adr cs hN t a0 _ h) hP hS (by omega) (fG_PO adr cs t) rfl (fgV mw_5_4 mw_5_5 mw_5_6 mw_1_14 mw_5_7) rfl rfl rfl (by decide +kernel) ⟨Nat.le_of_ble_eq_true rfl, Nat.le_of_ble_eq_true rfl⟩ rfl hl.1 rfl (Nat.le_of_ble_eq_true rfl) dX3_movedBy_4) hS (fun r2 t1 H locs h hP hS => ?_)
  refine lv_istore (lv' := [(4, .int r2), (3, .int 0), (0, .ref (adr 1)), (1, .int a0), (2, .int a1)]) hx hb dX3_movedBy_7 hl (by decide) rfl (fun ls hl => ?_)
  obtain ⟨n9, h⟩ := h
  exact k_X3_movedBy_9 hN C n9 a0 a1 0 r2 t1 _ _ _ h hP hS (lv_sub hl [2, 3, 4, 1, 0] rfl)

/-! X3.squareRest -/
abbrev wm_X3_squareRest : List Cond := Cond.code yX3_squareRest cX3_squareRest 9 (some .int) :: wsL_law
def q_X3_squareRest (t : fcS) (a0 : Int32) (a1 : Int32) (post : Int32 → fcS → Prop) : Prop := (¬ ((fgi t 1 0) : Int32) = 0) ∧ (∀ x1 : Int32, x1 = (a0 / (fgi t 1 0)) → ((¬ ((fgi t 1 0) : Int32) = 0) ∧ (∀ x2 : Int32, x2 = (irm a0 ((fgi t 1 0))) → ((¬ ((fgi t 1 0) : Int32) = 0) ∧ ((¬ ((fgi t 1 0) : Int32) = 0) ∧ (∀ x3 : Int32, x3 = ((fgi t 1 0) - (irm ((a1 / (fgi t 1 0))) ((fgi t 1 0)))) → ((¬ ((fgi t 1 0) : Int32) = 0) ∧ (∀ x4 : Int32, x4 = ((fgi t 1 0) - (irm a1 ((fgi t 1 0)))) → ((¬ ((fgi t 1 0) : Int32) = 0) ∧ (∀ x5 : Int32, x5 = (irm ((x1 * ((2 * x2) + (x3 * x1)))) ((fgi t 1 0))) → ((¬ ((fgi t 1 0) : Int32) = 0) ∧ (∀ x6 : Int32, x6 = (irm (((x2 * x2) + ((x4 * x1) * x1))) ((fgi t 1 0))) → (post (((x5 * (fgi t 1 0)) + x6)) t)))))))))))))
set_option maxHeartbeats 4000000 in
set_option maxRecDepth 100000 in
theorem c_X3_squareRest (l : Launch) (D : va_G) (adr : Nat → Nat) (cs : Nat → ClassId) {N : Nat} (hN : 53 ≤ N) (t : fcS) (a0 : Int32) (a1 : Int32) (post : Int32 → fcS → Prop) (h : q_X3_squareRest t a0 a1 post) : Met l yX3_squareRest wm_X3_squareRest ({ frames := 0, cells := 0, slots := 0, locals := 0 } : Room) (fcPre D adr cs N t [.ref (adr 1), .int a0, .int a1]) (fQi D adr cs N post) 0 0 (faN adr N) := by
  refine f_enter (cc := cX3_squareRest) (nL := 9) (ret := some .int) (lv := [(0, .ref (adr 1)), (1, .int a0), (2, .int a1)]) (own := RX3) (by decide) rfl (Nat.le_of_ble_eq_true rfl) rfl rfl ?_
  intro p e s m below meth c ls C hP hS hl
  have hx := C.1.1
  have hb := C.1.2.1
  unfold q_X3_squareRest at h
  refine lv_iload_n hx hb dX3_squareRest_0 rfl (lv_at hl 1 rfl) ?_
  refine lv_aload_n hx hb dX3_squareRest_1 rfl (lv_at hl 0 rfl) ?_
  refine fr_get (j := 0) C hP (by omega) (fG_PO adr cs t) rfl (fun w h => List.mem_cons_of_mem _ (inl_X3 w h)) (by decide) rfl (List.mem_cons_of_mem _ mw_2_8) rfl dX3_squareRest_2 ?_
  refine lv_idiv hx hb dX3_squareRest_5 h.1 ?_
  replace h := h.2
  refine lv_topi (fun x1 ex1 => ?_)
  replace h := h x1 ex1
  refine lv_istore_n (lv' := [(3, .int x1), (0, .ref (adr 1)), (1, .int a0), (2, .int a1)]) hx hb dX3_squareRest_6 rfl hl (by decide) rfl (fun ls hl => ?_)
  refine lv_iload_n hx hb dX3_squareRest_7 rfl (lv_at hl 2 rfl) ?_
  refine lv_aload_n hx hb dX3_squareRest_8 rfl (lv_at hl 1 rfl) ?_
  refine fr_get (j := 0) C hP (by omega) (fG_PO adr cs t) rfl (fun w h => List.mem_cons_of_mem _ (inl_X3 w h)) (by decide) rfl (List.mem_cons_of_mem _ mw_2_8) rfl dX3_squareRest_9 ?_
  refine lv_irem hx hb dX3_squareRest_12 h.1 ?_
  replace h := h.2
  refine lv_topi (fun x2 ex2 => ?_)
  replace h := h x2 ex2
  refine lv_istore (lv' := [(4, .int x2), (3, .int x1), (0, .ref (adr 1)), (1, .int a0), (2, .int a1)]) hx hb dX3_squareRest_13 hl (by decide) rfl (fun ls hl => ?_)
  refine lv_aload_n hx hb dX3_squareRest_15 rfl (lv_at hl 2 rfl) ?_
  refine fr_get (j := 0) C hP (by omega) (fG_PO adr cs t) rfl (fun w h => List.mem_cons_of_mem _ (inl_X3 w h)) (by decide) rfl (List.mem_cons_of_mem _ mw_2_8) rfl dX3_squareRest_16 ?_
  refine lv_iload_n hx hb dX3_squareRest_19 rfl (lv_at hl 4 rfl) ?_
  refine lv_aload_n hx hb dX3_squareRest_20 rfl (lv_at hl 2 rfl) ?_
  refine fr_get (j := 0) C hP (by omega) (fG_PO adr cs t) rfl (fun w h => List.mem_cons_of_mem _ (inl_X3 w h)) (by decide) rfl (List.mem_cons_of_mem _ mw_2_8) rfl dX3_squareRest_21 ?_
  refine lv_idiv hx hb dX3_squareRest_24 h.1 ?_
  replace h := h.2
  refine lv_aload_n hx hb dX3_squareRest_25 rfl (lv_at hl 2 rfl) ?_
  refine fr_get (j := 0) C hP (by omega) (fG_PO adr cs t) rfl (fun w h => List.mem_cons_of_mem _ (inl_X3 w h)) (by decide) rfl (List.mem_cons_of_mem _ mw_2_8) rfl dX3_squareRest_26 ?_
  refine lv_irem hx hb dX3_squareRest_29 h.1 ?_
  replace h := h.2
  refine lv_isub hx hb dX3_squareRest_30 ?_
  refine lv_topi (fun x3 ex3 => ?_)
  replace h := h x3 ex3
  refine lv_istore (lv' := [(5, .int x3), (4, .int x2), (3, .int x1), (0, .ref (adr 1)), (1, .int a0), (2, .int a1)]) hx hb dX3_squareRest_31 hl (by decide) rfl (fun ls hl => ?_)
  refine lv_aload_n hx hb dX3_squareRest_33 rfl (lv_at hl 3 rfl) ?_
  refine fr_get (j := 0) C hP (by omega) (fG_PO adr cs t) rfl (fun w h => List.mem_cons_of_mem _ (inl_X3 w h)) (by decide) rfl (List.mem_cons_of_mem _ mw_2_8) rfl dX3_squareRest_34 ?_
  refine lv_iload_n hx hb dX3_squareRest_37 rfl (lv_at hl 5 rfl) ?_
  refine lv_aload_n hx hb dX3_squareRest_38 rfl (lv_at hl 3 rfl) ?_
  refine fr_get (j := 0) C hP (by omega) (fG_PO adr cs t) rfl (fun w h => List.mem_cons_of_mem _ (inl_X3 w h)) (by decide) rfl (List.mem_cons_of_mem _ mw_2_8) rfl dX3_squareRest_39 ?_
  refine lv_irem hx hb dX3_squareRest_42 h.1 ?_
  replace h := h.2
  refine lv_isub hx hb dX3_squareRest_43 ?_
  refine lv_topi (fun x4 ex4 => ?_)
  replace h := h x4 ex4
  refine lv_istore (lv' := [(6, .int x4), (5, .int x3), (4, .int x2), (3, .int x1), (0, .ref (adr 1)), (1, .int a0), (2, .int a1)]) hx hb dX3_squareRest_44 hl (by decide) rfl (fun ls hl => ?_)
  refine lv_iload_n hx hb dX3_squareRest_46 rfl (lv_at hl 3 rfl) ?_
  refine lv_iconst (v := 2) hx hb dX3_squareRest_47 (by decide) ?_
  refine lv_iload hx hb dX3_squareRest_48 (lv_at hl 2 rfl) ?_
  refine lv_imul hx hb dX3_squareRest_50 ?_
  refine lv_iload hx hb dX3_squareRest_51 (lv_at hl 1 rfl) ?_
  refine lv_iload_n hx hb dX3_squareRest_53 rfl (lv_at hl 3 rfl) ?_
  refine lv_imul hx hb dX3_squareRest_54 ?_
  refine lv_iadd hx hb dX3_squareRest_55 ?_
  refine lv_imul hx hb dX3_squareRest_56 ?_
  refine lv_aload_n hx hb dX3_squareRest_57 rfl (lv_at hl 4 rfl) ?_
  refine fr_get (j := 0) C hP (by omega) (fG_PO adr cs t) rfl (fun w h => List.mem_cons_of_mem _ (inl_X3 w h)) (by decide) rfl (List.mem_cons_of_mem _ mw_2_8) rfl dX3_squareRest_58 ?_
  refine lv_irem hx hb dX3_squareRest_61 h.1 ?_
  replace h := h.2
  refine lv_topi (fun x5 ex5 => ?_)
  replace h := h x5 ex5
  refine lv_istore (lv' := [(7, .int x5), (6, .int x4), (5, .int x3), (4, .int x2), (3, .int x1), (0, .ref (adr 1)), (1, .int a0), (2, .int a1)]) hx hb dX3_squareRest_62 hl (by decide) rfl (fun ls hl => ?_)
  refine lv_iload hx hb dX3_squareRest_64 (lv_at hl 3 rfl) ?_
  refine lv_iload hx hb dX3_squareRest_66 (lv_at hl 3 rfl) ?_
  refine lv_imul hx hb dX3_squareRest_68 ?_
  refine lv_iload hx hb dX3_squareRest_69 (lv_at hl 1 rfl) ?_
  refine lv_iload_n hx hb dX3_squareRest_71 rfl (lv_at hl 4 rfl) ?_
  refine lv_imul hx hb dX3_squareRest_72 ?_
  refine lv_iload_n hx hb dX3_squareRest_73 rfl (lv_at hl 4 rfl) ?_
  refine lv_imul hx hb dX3_squareRest_74 ?_
  refine lv_iadd hx hb dX3_squareRest_75 ?_
  refine lv_aload_n hx hb dX3_squareRest_76 rfl (lv_at hl 5 rfl) ?_
  refine fr_get (j := 0) C hP (by omega) (fG_PO adr cs t) rfl (fun w h => List.mem_cons_of_mem _ (inl_X3 w h)) (by decide) rfl (List.mem_cons_of_mem _ mw_2_8) rfl dX3_squareRest_77 ?_
  refine lv_irem hx hb dX3_squareRest_80 h.1 ?_
  replace h := h.2
  refine lv_topi (fun x6 ex6 => ?_)
  replace h := h x6 ex6
  refine lv_istore (lv' := [(8, .int x6), (7, .int x5), (6, .int x4), (5, .int x3), (4, .int x2), (3, .int x1), (0, .ref (adr 1)), (1, .int a0), (2, .int a1)]) hx hb dX3_squareRest_81 hl (by decide) rfl (fun ls hl => ?_)
  refine lv_iload hx hb dX3_squareRest_83 (lv_at hl 1 rfl) ?_
  refine lv_aload_n hx hb dX3_squareRest_85 rfl (lv_at hl 6 rfl) ?_
  refine fr_get (j := 0) C hP (by omega) (fG_PO adr cs t) rfl (fun w h => List.mem_cons_of_mem _ (inl_X3 w h)) (by decide) rfl (List.mem_cons_of_mem _ mw_2_8) rfl dX3_squareRest_86 ?_
  refine lv_imul hx hb dX3_squareRest_89 ?_
  refine lv_iload hx hb dX3_squareRest_90 (lv_at hl 0 rfl) ?_
  refine lv_iadd hx hb dX3_squareRest_92 ?_
  exact fr_iret C hP hS h dX3_squareRest_93

/-! X3.isProduct -/
abbrev wm_X3_isProduct : List Cond := Cond.code yX3_isProduct cX3_isProduct 6 (some .boolean) :: wsL_law
def q_X3_isProduct_20 (post : Int32 → fcS → Prop) (k2 : Int32 → Int32 → Int32 → fcS → Prop) : Nat → Int32 → Int32 → Int32 → Int32 → Int32 → fcS → Prop
  | 0, _, _, _, _, _, _ => False
  | n + 1, v1, v2, v3, v4, v5, t => ((2 * v4) ≤ v5 → (∀ x3 : Int32, x3 = v3 + 1 → (k2 v1 v2 x3 t))) ∧ (¬ (2 * v4) ≤ v5 → (q_X3_rest t v1 v5 (fun (r5 : Int32) (t4 : fcS) => (¬ r5 = 0 → (∀ x6 : Int32, x6 = v5 + 1 → (q_X3_isProduct_20 post k2 n v1 v2 v3 v4 x6 t4))) ∧ (r5 = 0 → (post 1 t4)))))
def q_X3_isProduct_2 (post : Int32 → fcS → Prop) : Nat → Int32 → Int32 → Int32 → fcS → Prop
  | 0, _, _, _, _ => False
  | n + 1, v1, v2, v3, t => (¬ (2 : Int32) = 0) ∧ (((v2 / 2) < v3 → (post 0 t)) ∧ (¬ (v2 / 2) < v3 → (q_X3_place t v3 (fun (r2 : Int32) (t1 : fcS) => ∃ n0, q_X3_isProduct_20 post (fun v1_ v2_ v3_ t_ => q_X3_isProduct_2 post n v1_ v2_ v3_ t_) n0 v1 v2 v3 r2 r2 t1))))
def q_X3_isProduct (t : fcS) (a0 : Int32) (a1 : Int32) (post : Int32 → fcS → Prop) : Prop := ∃ n0, q_X3_isProduct_2 post n0 a0 a1 1 t
set_option maxHeartbeats 4000000 in
set_option maxRecDepth 100000 in
theorem k_X3_isProduct_20 {D : va_G} {adr : Nat → Nat} {cs : Nat → ClassId} {N : Nat} (hN : 53 ≤ N) {p : Program} {l : Launch} {e : Env} {s : State} {m : MethodId} {args : Array Value} {below : List Frame} {meth : Method} {c : Code} (C : fCx D adr cs N p s m args meth c cX3_isProduct 6 (some .boolean) RX3 wm_X3_isProduct) {post : Int32 → fcS → Prop} {k2 : Int32 → Int32 → Int32 → fcS → Prop} (hk2 : ∀ (v1 : Int32) (v2 : Int32) (v3 : Int32) (t : fcS) (H : Heap) (locs : List Loc) (ls : Array Slot), k2 v1 v2 v3 t → va_P D vwCl (fwl adr N (fG adr cs t)) H → va_S (faN adr N) s.heap H locs → lv_has ls 6 [(0, .ref (adr 1)), (1, .int v1), (2, .int v2), (3, .int v3)] → W p l e ({ frames := 2, cells := 0, slots := 0, locals := 54 } : Room) s m args below meth c H locs 0 0 (MQ below (fQi D adr cs N post) args s 0 0 (faN adr N)) (F0 m 2 ls [])) : ∀ (n : Nat) (v1 : Int32) (v2 : Int32) (v3 : Int32) (v4 : Int32) (v5 : Int32) (t : fcS) (H : Heap) (locs : List Loc) (ls : Array Slot), q_X3_isProduct_20 post k2 n v1 v2 v3 v4 v5 t → va_P D vwCl (fwl adr N (fG adr cs t)) H → va_S (faN adr N) s.heap H locs → lv_has ls 6 [(0, .ref (adr 1)), (1, .int v1), (2, .int v2), (3, .int v3), (4, .int v4), (5, .int v5)] → W p l e ({ frames := 2, cells := 0, slots := 0, locals := 54 } : Room) s m args below meth c H locs 0 0 (MQ below (fQi D adr cs N post) args s 0 0 (faN adr N)) (F0 m 20 ls []) := by
  have hx := C.1.1
  have hb := C.1.2.1
  intro n
  induction n with
  | zero => intro v1 v2 v3 v4 v5 t H locs ls h; exact False.elim h
  | succ n ih =>
    intro v1 v2 v3 v4 v5 t H locs ls h hP hS hl
    unfold q_X3_isProduct_20 at h
    refine lv_iload hx hb dX3_isProduct_20 (lv_at hl 5 rfl) ?_
    refine lv_iconst (v := 2) hx hb dX3_isProduct_22 (by decide) ?_
    refine lv_iload hx hb dX3_isProduct_23 (lv_at hl 4 rfl) ?_
    refine lv_imul hx hb dX3_isProduct_25 ?_
    refine lv_icmp_ge (tgt := 47) hx hb dX3_isProduct_26 (by decide) (fun c9 => ?_) (fun c9 => ?_)
    · replace h := h.1 c9
      obtain ⟨x3, ex3⟩ : ∃ y : Int32, y = v3 + 1 := ⟨_, rfl⟩
      replace h := h x3 ex3
      refine lv_iinc (v := x3) (lv' := [(3, .int x3), (0, .ref (adr 1)), (1, .int v1), (2, .int v2), (4, .int v4), (5, .int v5)]) hx hb dX3_isProduct_47 hl (k := 3) rfl (by rw [ex3]; rfl) (by decide) rfl (fun ls hl => ?_)
      refine lv_goto (tgt := 2) hx hb dX3_isProduct_50 (by decide) ?_
      exact hk2 v1 v2 x3 t _ _ _ h hP hS (lv_sub hl [1, 2, 3, 0] rfl)
    · replace h := h.2 c9
      refine lv_aload_n hx hb dX3_isProduct_29 rfl (lv_at hl 0 rfl) ?_
      refine lv_iload_n hx hb dX3_isProduct_30 rfl (lv_at hl 1 rfl) ?_
      refine lv_iload hx hb dX3_isProduct_31 (lv_at hl 5 rfl) ?_
      refine fr_ci (fr_runV (n := 2) (rest := []) C (c_X3_rest l D adr cs hN t v1 v5 _ h) hP hS (by omega) (fG_PO adr cs t) rfl (fgV mw_5_0 mw_5_1 mw_5_2 mw_1_14 mw_5_3) rfl rfl rfl (by decide +kernel) ⟨Nat.le_of_ble_eq_true rfl, Nat.le_of_ble_eq_true rfl⟩ rfl hl.1 rfl (Nat.le_of_ble_eq_true rfl) dX3_isProduct_33) hS (fun r5 t4 H locs h hP hS => ?_)
      refine lv_if_ne (tgt := 41) hx hb dX3_isProduct_36 (by decide) (fun c9 => ?_) (fun c9 => ?_)
      · replace h := h.1 c9
        obtain ⟨x6, ex6⟩ : ∃ y : Int32, y = v5 + 1 := ⟨_, rfl⟩
        replace h := h x6 ex6
        refine lv_iinc (v := x6) (lv' := [(5, .int x6), (0, .ref (adr 1)), (1, .int v1), (2, .int v2), (3, .int v3), (4, .int v4)]) hx hb dX3_isProduct_41 hl (k := 5) rfl (by rw [ex6]; rfl) (by decide) rfl (fun ls hl => ?_)
        refine lv_goto (tgt := 20) hx hb dX3_isProduct_44 (by decide) ?_
        exact ih v1 v2 v3 v4 x6 t4 _ _ _ h hP hS (lv_sub hl [1, 2, 3, 4, 5, 0] rfl)
      · replace h := h.2 c9
        refine lv_iconst (v := 1) hx hb dX3_isProduct_39 (by decide) ?_
        exact fr_zret C hP hS rfl h dX3_isProduct_40

set_option maxHeartbeats 4000000 in
set_option maxRecDepth 100000 in
theorem k_X3_isProduct_2 {D : va_G} {adr : Nat → Nat} {cs : Nat → ClassId} {N : Nat} (hN : 53 ≤ N) {p : Program} {l : Launch} {e : Env} {s : State} {m : MethodId} {args : Array Value} {below : List Frame} {meth : Method} {c : Code} (C : fCx D adr cs N p s m args meth c cX3_isProduct 6 (some .boolean) RX3 wm_X3_isProduct) {post : Int32 → fcS → Prop} : ∀ (n : Nat) (v1 : Int32) (v2 : Int32) (v3 : Int32) (t : fcS) (H : Heap) (locs : List Loc) (ls : Array Slot), q_X3_isProduct_2 post n v1 v2 v3 t → va_P D vwCl (fwl adr N (fG adr cs t)) H → va_S (faN adr N) s.heap H locs → lv_has ls 6 [(0, .ref (adr 1)), (1, .int v1), (2, .int v2), (3, .int v3)] → W p l e ({ frames := 2, cells := 0, slots := 0, locals := 54 } : Room) s m args below meth c H locs 0 0 (MQ below (fQi D adr cs N post) args s 0 0 (faN adr N)) (F0 m 2 ls []) := by
  have hx := C.1.1
  have hb := C.1.2.1
  intro n
  induction n with
  | zero => intro v1 v2 v3 t H locs ls h; exact False.elim h
  | succ n ih =>
    intro v1 v2 v3 t H locs ls h hP hS hl
    unfold q_X3_isProduct_2 at h
    refine lv_iload_n hx hb dX3_isProduct_2 rfl (lv_at hl 3 rfl) ?_
    refine lv_iload_n hx hb dX3_isProduct_3 rfl (lv_at hl 2 rfl) ?_
    refine lv_iconst (v := 2) hx hb dX3_isProduct_4 (by decide) ?_
    refine lv_idiv hx hb dX3_isProduct_5 h.1 ?_
    replace h := h.2
    refine lv_icmp_gt (tgt := 53) hx hb dX3_isProduct_6 (by decide) (fun c9 => ?_) (fun c9 => ?_)
    · replace h := h.1 c9
      refine lv_iconst (v := 0) hx hb dX3_isProduct_53 (by decide) ?_
      exact fr_zret C hP hS rfl h dX3_isProduct_54
    · replace h := h.2 c9
      refine lv_aload_n hx hb dX3_isProduct_9 rfl (lv_at hl 0 rfl) ?_
      refine lv_iload_n hx hb dX3_isProduct_10 rfl (lv_at hl 3 rfl) ?_
      refine fr_ci (fr_runV (n := 1) (rest := []) C (c_X3_place l D adr cs hN t v3 _ h) hP hS (by omega) (fG_PO adr cs t) rfl (fgV mw_4_23 mw_4_6 mw_4_7 mw_1_14 mw_4_8) rfl rfl rfl (by decide +kernel) ⟨Nat.le_of_ble_eq_true rfl, Nat.le_of_ble_eq_true rfl⟩ rfl hl.1 rfl (Nat.le_of_ble_eq_true rfl) dX3_isProduct_11) hS (fun r2 t1 H locs h hP hS => ?_)
      refine lv_istore (lv' := [(4, .int r2), (0, .ref (adr 1)), (1, .int v1), (2, .int v2), (3, .int v3)]) hx hb dX3_isProduct_14 hl (by decide) rfl (fun ls hl => ?_)
      refine lv_iload hx hb dX3_isProduct_16 (lv_at hl 0 rfl) ?_
      refine lv_istore (lv' := [(5, .int r2), (4, .int r2), (0, .ref (adr 1)), (1, .int v1), (2, .int v2), (3, .int v3)]) hx hb dX3_isProduct_18 hl (by decide) rfl (fun ls hl => ?_)
      obtain ⟨n9, h⟩ := h
      exact k_X3_isProduct_20 hN C ih n9 v1 v2 v3 r2 r2 t1 _ _ _ h hP hS (lv_sub hl [2, 3, 4, 5, 1, 0] rfl)

set_option maxHeartbeats 4000000 in
set_option maxRecDepth 100000 in
theorem c_X3_isProduct (l : Launch) (D : va_G) (adr : Nat → Nat) (cs : Nat → ClassId) {N : Nat} (hN : 53 ≤ N) (t : fcS) (a0 : Int32) (a1 : Int32) (post : Int32 → fcS → Prop) (h : q_X3_isProduct t a0 a1 post) : Met l yX3_isProduct wm_X3_isProduct ({ frames := 2, cells := 0, slots := 0, locals := 54 } : Room) (fcPre D adr cs N t [.ref (adr 1), .int a0, .int a1]) (fQi D adr cs N post) 0 0 (faN adr N) := by
  refine f_enter (cc := cX3_isProduct) (nL := 6) (ret := some .boolean) (lv := [(0, .ref (adr 1)), (1, .int a0), (2, .int a1)]) (own := RX3) (by decide) rfl (Nat.le_of_ble_eq_true rfl) rfl rfl ?_
  intro p e s m below meth c ls C hP hS hl
  have hx := C.1.1
  have hb := C.1.2.1
  unfold q_X3_isProduct at h
  refine lv_iconst (v := 1) hx hb dX3_isProduct_0 (by decide) ?_
  refine lv_istore_n (lv' := [(3, .int 1), (0, .ref (adr 1)), (1, .int a0), (2, .int a1)]) hx hb dX3_isProduct_1 rfl hl (by decide) rfl (fun ls hl => ?_)
  obtain ⟨n9, h⟩ := h
  exact k_X3_isProduct_2 hN C n9 a0 a1 1 t _ _ _ h hP hS (lv_sub hl [1, 2, 3, 0] rfl)

/-! X3.begin -/
abbrev wm_X3_begin : List Cond := Cond.code yX3_begin cX3_begin 2 none :: wsL_law
def q_X3_begin (t : fcS) (a0 : Int32) (post : fcS → Prop) : Prop := ∀ x1 : Int32, x1 = (if 2 < a0 then a0 else 2) → (∀ t2 : fcS, t2 = fsi t 1 0 x1 → (post t2))
set_option maxHeartbeats 4000000 in
set_option maxRecDepth 100000 in
theorem c_X3_begin (l : Launch) (D : va_G) (adr : Nat → Nat) (cs : Nat → ClassId) {N : Nat} (hN : 53 ≤ N) (t : fcS) (a0 : Int32) (post : fcS → Prop) (h : q_X3_begin t a0 post) : Met l yX3_begin wm_X3_begin ({ frames := 1, cells := 0, slots := 0, locals := 21 } : Room) (fcPre D adr cs N t [.ref (adr 1), .int a0]) (fQv D adr cs N post) 0 0 (faN adr N) := by
  refine f_enter (cc := cX3_begin) (nL := 2) (ret := none) (lv := [(0, .ref (adr 1)), (1, .int a0)]) (own := RX3) (by decide) rfl (Nat.le_of_ble_eq_true rfl) rfl rfl ?_
  intro p e s m below meth c ls C hP hS hl
  have hx := C.1.1
  have hb := C.1.2.1
  unfold q_X3_begin at h
  refine lv_aload_n hx hb dX3_begin_0 rfl (lv_at hl 0 rfl) ?_
  refine lv_iconst (v := 2) hx hb dX3_begin_1 (by decide) ?_
  refine lv_iload_n hx hb dX3_begin_2 rfl (lv_at hl 1 rfl) ?_
  refine va_mmax (own := RX3) (index := 15) hx hb (C.1.2.2.1.trans hl.1.symm) C.1.2.2.2.1 (C.1.2.2.2.2 _ (List.mem_cons_of_mem _ mw_4_1)) (C.1.2.2.2.2 _ (List.mem_cons_of_mem _ mw_4_2)) (C.1.2.2.2.2 _ (List.mem_cons_of_mem _ mw_4_3)) (C.1.2.2.2.2 _ (List.mem_cons_of_mem _ mw_4_4)) (Nat.le_of_ble_eq_true rfl) (Nat.le_of_ble_eq_true rfl) (Nat.zero_le _) (Nat.zero_le _) dX3_begin_3 ?_
  refine lv_topi (fun x1 ex1 => ?_)
  replace h := h x1 ex1
  refine fr_put C (fsi t 1 0 x1) (j := 0) (ty := .int) hP hS (by omega) (fG_PO adr cs t) rfl (fun w h => List.mem_cons_of_mem _ (inl_X3 w h)) tyX3_ok nmX3 (by decide) rfl (List.mem_cons_of_mem _ mw_2_8) rfl (by decide +kernel) rfl rfl (Nat.le_of_ble_eq_true rfl) (fS_PO_0 adr cs t x1) (fG_fsi_ne adr cs t 1 0 x1) dX3_begin_6 (fun H locs hP hS => ?_)
  obtain ⟨t2, et2⟩ : ∃ y : fcS, y = fsi t 1 0 x1 := ⟨_, rfl⟩
  rw [← et2] at hP
  replace h := h t2 et2
  exact fr_vret C hP hS h dX3_begin_9

