/-! X5.sum -/
abbrev wm_X5_sum : List Cond := Cond.code yX5_sum cX5_sum 7 (some .int) :: wsL_law
def q_X5_sum_21 (post : Int32 → fcS → Prop) (k11 : Int32 → Int32 → Int32 → Int32 → fcS → Prop) (v3 : Int32) (v4 : Int32) (v5 : Int32) (v6 : Int32) (t : fcS) : Prop := (¬ ((fgi t 53 1) : Int32) = 0) ∧ ((¬ ((fgi t 53 1) : Int32) = 0) ∧ ((¬ ((fgi t 53 1) : Int32) = 0) ∧ (∀ x1 : Int32, x1 = (v3 + (v4 * (irm (((irm v5 ((fgi t 53 1))) + (irm v6 ((fgi t 53 1))))) ((fgi t 53 1))))) → ((¬ ((fgi t 53 1) : Int32) = 0) ∧ (∀ x2 : Int32, x2 = (v5 / (fgi t 53 1)) → ((¬ ((fgi t 53 1) : Int32) = 0) ∧ (∀ x3 : Int32, x3 = (v6 / (fgi t 53 1)) → (∀ x4 : Int32, x4 = (v4 * (fgi t 53 1)) → (k11 x1 x4 x2 x3 t)))))))))
def q_X5_sum_11 (post : Int32 → fcS → Prop) : Nat → Int32 → Int32 → Int32 → Int32 → fcS → Prop
  | 0, _, _, _, _, _ => False
  | n + 1, v3, v4, v5, v6, t => (0 < v5 → (q_X5_sum_21 post (fun v3_ v4_ v5_ v6_ t_ => q_X5_sum_11 post n v3_ v4_ v5_ v6_ t_) v3 v4 v5 v6 t)) ∧ (¬ 0 < v5 → ((v6 ≤ 0 → (post v3 t)) ∧ (¬ v6 ≤ 0 → (q_X5_sum_21 post (fun v3_ v4_ v5_ v6_ t_ => q_X5_sum_11 post n v3_ v4_ v5_ v6_ t_) v3 v4 v5 v6 t))))
def q_X5_sum (t : fcS) (a0 : Int32) (a1 : Int32) (post : Int32 → fcS → Prop) : Prop := ∃ n0, q_X5_sum_11 post n0 0 1 a0 a1 t
set_option maxHeartbeats 4000000 in
set_option maxRecDepth 100000 in
theorem k_X5_sum_21 {D : va_G} {adr : Nat → Nat} {cs : Nat → ClassId} {N : Nat} (hN : 67 ≤ N) {p : Program} {l : Launch} {e : Env} {s : State} {m : MethodId} {args : Array Value} {below : List Frame} {meth : Method} {c : Code} (C : fCx D adr cs N p s m args meth c cX5_sum 7 (some .int) RX5 wm_X5_sum) {post : Int32 → fcS → Prop} {k11 : Int32 → Int32 → Int32 → Int32 → fcS → Prop} (hk11 : ∀ (v3 : Int32) (v4 : Int32) (v5 : Int32) (v6 : Int32) (t : fcS) (H : Heap) (locs : List Loc) (ls : Array Slot), k11 v3 v4 v5 v6 t → va_P D vwCl (fwl adr N (fG adr cs t)) H → va_S (faN adr N) s.heap H locs → lv_has ls 7 [(0, .ref (adr 53)), (3, .int v3), (4, .int v4), (5, .int v5), (6, .int v6)] → W p l e ({ frames := 0, cells := 0, slots := 0, locals := 0 } : Room) s m args below meth c H locs 0 0 (MQ below (fQi D adr cs N post) args s 0 0 (faN adr N)) (F0 m 11 ls [])) : ∀ (v3 : Int32) (v4 : Int32) (v5 : Int32) (v6 : Int32) (t : fcS) (H : Heap) (locs : List Loc) (ls : Array Slot), q_X5_sum_21 post k11 v3 v4 v5 v6 t → va_P D vwCl (fwl adr N (fG adr cs t)) H → va_S (faN adr N) s.heap H locs → lv_has ls 7 [(0, .ref (adr 53)), (3, .int v3), (4, .int v4), (5, .int v5), (6, .int v6)] → W p l e ({ frames := 0, cells := 0, slots := 0, locals := 0 } : Room) s m args below meth c H locs 0 0 (MQ below (fQi D adr cs N post) args s 0 0 (faN adr N)) (F0 m 21 ls []) := by
  have hx := C.1.1
  have hb := C.1.2.1
  intro v3 v4 v5 v6 t H locs ls h hP hS hl
  unfold q_X5_sum_21 at h
  refine lv_iload_n hx hb dX5_sum_21 rfl (lv_at hl 1 rfl) ?_
  refine lv_iload hx hb dX5_sum_22 (lv_at hl 2 rfl) ?_
  refine lv_iload hx hb dX5_sum_24 (lv_at hl 3 rfl) ?_
  refine lv_aload_n hx hb dX5_sum_26 rfl (lv_at hl 0 rfl) ?_
  refine fr_get (j := 1) C hP (by omega) (fG_MO adr cs t) rfl (fun w h => List.mem_cons_of_mem _ (inl_X5 w h)) (by decide) rfl (List.mem_cons_of_mem _ mw_7_5) rfl dX5_sum_27 ?_
  refine lv_irem hx hb dX5_sum_30 h.1 ?_
  replace h := h.2
  refine lv_iload hx hb dX5_sum_31 (lv_at hl 4 rfl) ?_
  refine lv_aload_n hx hb dX5_sum_33 rfl (lv_at hl 0 rfl) ?_
  refine fr_get (j := 1) C hP (by omega) (fG_MO adr cs t) rfl (fun w h => List.mem_cons_of_mem _ (inl_X5 w h)) (by decide) rfl (List.mem_cons_of_mem _ mw_7_5) rfl dX5_sum_34 ?_
  refine lv_irem hx hb dX5_sum_37 h.1 ?_
  replace h := h.2
  refine lv_iadd hx hb dX5_sum_38 ?_
  refine lv_aload_n hx hb dX5_sum_39 rfl (lv_at hl 0 rfl) ?_
  refine fr_get (j := 1) C hP (by omega) (fG_MO adr cs t) rfl (fun w h => List.mem_cons_of_mem _ (inl_X5 w h)) (by decide) rfl (List.mem_cons_of_mem _ mw_7_5) rfl dX5_sum_40 ?_
  refine lv_irem hx hb dX5_sum_43 h.1 ?_
  replace h := h.2
  refine lv_imul hx hb dX5_sum_44 ?_
  refine lv_iadd hx hb dX5_sum_45 ?_
  refine lv_topi (fun x1 ex1 => ?_)
  replace h := h x1 ex1
  refine lv_istore_n (lv' := [(3, .int x1), (0, .ref (adr 53)), (4, .int v4), (5, .int v5), (6, .int v6)]) hx hb dX5_sum_46 rfl hl (by decide) rfl (fun ls hl => ?_)
  refine lv_iload hx hb dX5_sum_47 (lv_at hl 3 rfl) ?_
  refine lv_aload_n hx hb dX5_sum_49 rfl (lv_at hl 1 rfl) ?_
  refine fr_get (j := 1) C hP (by omega) (fG_MO adr cs t) rfl (fun w h => List.mem_cons_of_mem _ (inl_X5 w h)) (by decide) rfl (List.mem_cons_of_mem _ mw_7_5) rfl dX5_sum_50 ?_
  refine lv_idiv hx hb dX5_sum_53 h.1 ?_
  replace h := h.2
  refine lv_topi (fun x2 ex2 => ?_)
  replace h := h x2 ex2
  refine lv_istore (lv' := [(5, .int x2), (3, .int x1), (0, .ref (adr 53)), (4, .int v4), (6, .int v6)]) hx hb dX5_sum_54 hl (by decide) rfl (fun ls hl => ?_)
  refine lv_iload hx hb dX5_sum_56 (lv_at hl 4 rfl) ?_
  refine lv_aload_n hx hb dX5_sum_58 rfl (lv_at hl 2 rfl) ?_
  refine fr_get (j := 1) C hP (by omega) (fG_MO adr cs t) rfl (fun w h => List.mem_cons_of_mem _ (inl_X5 w h)) (by decide) rfl (List.mem_cons_of_mem _ mw_7_5) rfl dX5_sum_59 ?_
  refine lv_idiv hx hb dX5_sum_62 h.1 ?_
  replace h := h.2
  refine lv_topi (fun x3 ex3 => ?_)
  replace h := h x3 ex3
  refine lv_istore (lv' := [(6, .int x3), (5, .int x2), (3, .int x1), (0, .ref (adr 53)), (4, .int v4)]) hx hb dX5_sum_63 hl (by decide) rfl (fun ls hl => ?_)
  refine lv_iload hx hb dX5_sum_65 (lv_at hl 4 rfl) ?_
  refine lv_aload_n hx hb dX5_sum_67 rfl (lv_at hl 3 rfl) ?_
  refine fr_get (j := 1) C hP (by omega) (fG_MO adr cs t) rfl (fun w h => List.mem_cons_of_mem _ (inl_X5 w h)) (by decide) rfl (List.mem_cons_of_mem _ mw_7_5) rfl dX5_sum_68 ?_
  refine lv_imul hx hb dX5_sum_71 ?_
  refine lv_topi (fun x4 ex4 => ?_)
  replace h := h x4 ex4
  refine lv_istore (lv' := [(4, .int x4), (6, .int x3), (5, .int x2), (3, .int x1), (0, .ref (adr 53))]) hx hb dX5_sum_72 hl (by decide) rfl (fun ls hl => ?_)
  refine lv_goto (tgt := 11) hx hb dX5_sum_74 (by decide) ?_
  exact hk11 x1 x4 x2 x3 t _ _ _ h hP hS (lv_sub hl [4, 3, 0, 2, 1] rfl)

set_option maxHeartbeats 4000000 in
set_option maxRecDepth 100000 in
theorem k_X5_sum_11 {D : va_G} {adr : Nat → Nat} {cs : Nat → ClassId} {N : Nat} (hN : 67 ≤ N) {p : Program} {l : Launch} {e : Env} {s : State} {m : MethodId} {args : Array Value} {below : List Frame} {meth : Method} {c : Code} (C : fCx D adr cs N p s m args meth c cX5_sum 7 (some .int) RX5 wm_X5_sum) {post : Int32 → fcS → Prop} : ∀ (n : Nat) (v3 : Int32) (v4 : Int32) (v5 : Int32) (v6 : Int32) (t : fcS) (H : Heap) (locs : List Loc) (ls : Array Slot), q_X5_sum_11 post n v3 v4 v5 v6 t → va_P D vwCl (fwl adr N (fG adr cs t)) H → va_S (faN adr N) s.heap H locs → lv_has ls 7 [(0, .ref (adr 53)), (3, .int v3), (4, .int v4), (5, .int v5), (6, .int v6)] → W p l e ({ frames := 0, cells := 0, slots := 0, locals := 0 } : Room) s m args below meth c H locs 0 0 (MQ below (fQi D adr cs N post) args s 0 0 (faN adr N)) (F0 m 11 ls []) := by
  have hx := C.1.1
  have hb := C.1.2.1
  intro n
  induction n with
  | zero => intro v3 v4 v5 v6 t H locs ls h; exact False.elim h
  | succ n ih =>
    intro v3 v4 v5 v6 t H locs ls h hP hS hl
    unfold q_X5_sum_11 at h
    refine lv_iload hx hb dX5_sum_11 (lv_at hl 3 rfl) ?_
    refine lv_if_gt (tgt := 21) hx hb dX5_sum_13 (by decide) (fun c9 => ?_) (fun c9 => ?_)
    · replace h := h.1 c9
      exact k_X5_sum_21 hN C ih v3 v4 v5 v6 t _ _ _ h hP hS (lv_sub hl [0, 1, 2, 3, 4] rfl)
    · replace h := h.2 c9
      refine lv_iload hx hb dX5_sum_16 (lv_at hl 4 rfl) ?_
      refine lv_if_le (tgt := 77) hx hb dX5_sum_18 (by decide) (fun c9 => ?_) (fun c9 => ?_)
      · replace h := h.1 c9
        refine lv_iload_n hx hb dX5_sum_77 rfl (lv_at hl 1 rfl) ?_
        exact fr_iret C hP hS h dX5_sum_78
      · replace h := h.2 c9
        exact k_X5_sum_21 hN C ih v3 v4 v5 v6 t _ _ _ h hP hS (lv_sub hl [0, 1, 2, 3, 4] rfl)

set_option maxHeartbeats 4000000 in
set_option maxRecDepth 100000 in
theorem c_X5_sum (l : Launch) (D : va_G) (adr : Nat → Nat) (cs : Nat → ClassId) {N : Nat} (hN : 67 ≤ N) (t : fcS) (a0 : Int32) (a1 : Int32) (post : Int32 → fcS → Prop) (h : q_X5_sum t a0 a1 post) : Met l yX5_sum wm_X5_sum ({ frames := 0, cells := 0, slots := 0, locals := 0 } : Room) (fcPre D adr cs N t [.ref (adr 53), .int a0, .int a1]) (fQi D adr cs N post) 0 0 (faN adr N) := by
  refine f_enter (cc := cX5_sum) (nL := 7) (ret := some .int) (lv := [(0, .ref (adr 53)), (1, .int a0), (2, .int a1)]) (own := RX5) (by decide) rfl (Nat.le_of_ble_eq_true rfl) rfl rfl ?_
  intro p e s m below meth c ls C hP hS hl
  have hx := C.1.1
  have hb := C.1.2.1
  unfold q_X5_sum at h
  refine lv_iconst (v := 0) hx hb dX5_sum_0 (by decide) ?_
  refine lv_istore_n (lv' := [(3, .int 0), (0, .ref (adr 53)), (1, .int a0), (2, .int a1)]) hx hb dX5_sum_1 rfl hl (by decide) rfl (fun ls hl => ?_)
  refine lv_iconst (v := 1) hx hb dX5_sum_2 (by decide) ?_
  refine lv_istore (lv' := [(4, .int 1), (3, .int 0), (0, .ref (adr 53)), (1, .int a0), (2, .int a1)]) hx hb dX5_sum_3 hl (by decide) rfl (fun ls hl => ?_)
  refine lv_iload_n hx hb dX5_sum_5 rfl (lv_at hl 3 rfl) ?_
  refine lv_istore (lv' := [(5, .int a0), (4, .int 1), (3, .int 0), (0, .ref (adr 53)), (1, .int a0), (2, .int a1)]) hx hb dX5_sum_6 hl (by decide) rfl (fun ls hl => ?_)
  refine lv_iload_n hx hb dX5_sum_8 rfl (lv_at hl 5 rfl) ?_
  refine lv_istore (lv' := [(6, .int a1), (5, .int a0), (4, .int 1), (3, .int 0), (0, .ref (adr 53)), (1, .int a0), (2, .int a1)]) hx hb dX5_sum_9 hl (by decide) rfl (fun ls hl => ?_)
  obtain ⟨n9, h⟩ := h
  exact k_X5_sum_11 hN C n9 0 1 a0 a1 t _ _ _ h hP hS (lv_sub hl [4, 3, 2, 1, 0] rfl)

/-! X5.power -/
abbrev wm_X5_power : List Cond := Cond.code yX5_power cX5_power 7 (some .int) :: wsL_law
def q_X5_power_36 (post : Int32 → fcS → Prop) (k9 : Int32 → Int32 → Int32 → Int32 → fcS → Prop) (v1 : Int32) (v5 : Int32) (v6 : Int32) (vs0 : Int32) (t : fcS) : Prop := (¬ (2 : Int32) = 0) ∧ (∀ x1 : Int32, x1 = (v6 / 2) → ((x1 ≤ 0 → (k9 v1 vs0 v5 x1 t)) ∧ (¬ x1 ≤ 0 → (q_X5_product t v1 v5 v5 (fun (r3 : Int32) (t2 : fcS) => k9 v1 vs0 r3 x1 t2)))))
def q_X5_power_9 (post : Int32 → fcS → Prop) : Nat → Int32 → Int32 → Int32 → Int32 → fcS → Prop
  | 0, _, _, _, _, _ => False
  | n + 1, v1, v4, v5, v6, t => (v6 ≤ 0 → (post v4 t)) ∧ (¬ v6 ≤ 0 → ((¬ (2 : Int32) = 0) ∧ ((¬ (irm v6 2) = 1 → (q_X5_power_36 post (fun v1_ v4_ v5_ v6_ t_ => q_X5_power_9 post n v1_ v4_ v5_ v6_ t_) v1 v5 v6 v4 t)) ∧ ((irm v6 2) = 1 → (q_X5_product t v1 v4 v5 (fun (r5 : Int32) (t4 : fcS) => q_X5_power_36 post (fun v1_ v4_ v5_ v6_ t_ => q_X5_power_9 post n v1_ v4_ v5_ v6_ t_) v1 v5 v6 r5 t4))))))
def q_X5_power (t : fcS) (a0 : Int32) (a1 : Int32) (a2 : Int32) (post : Int32 → fcS → Prop) : Prop := ∃ n0, q_X5_power_9 post n0 a0 1 a1 a2 t
set_option maxHeartbeats 4000000 in
set_option maxRecDepth 100000 in
theorem k_X5_power_36 {D : va_G} {adr : Nat → Nat} {cs : Nat → ClassId} {N : Nat} (hN : 67 ≤ N) {p : Program} {l : Launch} {e : Env} {s : State} {m : MethodId} {args : Array Value} {below : List Frame} {meth : Method} {c : Code} (C : fCx D adr cs N p s m args meth c cX5_power 7 (some .int) RX5 wm_X5_power) {post : Int32 → fcS → Prop} {k9 : Int32 → Int32 → Int32 → Int32 → fcS → Prop} (hk9 : ∀ (v1 : Int32) (v4 : Int32) (v5 : Int32) (v6 : Int32) (t : fcS) (H : Heap) (locs : List Loc) (ls : Array Slot), k9 v1 v4 v5 v6 t → va_P D vwCl (fwl adr N (fG adr cs t)) H → va_S (faN adr N) s.heap H locs → lv_has ls 7 [(0, .ref (adr 53)), (1, .int v1), (4, .int v4), (5, .int v5), (6, .int v6)] → W p l e ({ frames := 3, cells := 0, slots := 0, locals := 75 } : Room) s m args below meth c H locs 0 0 (MQ below (fQi D adr cs N post) args s 0 0 (faN adr N)) (F0 m 9 ls [])) : ∀ (v1 : Int32) (v5 : Int32) (v6 : Int32) (vs0 : Int32) (t : fcS) (H : Heap) (locs : List Loc) (ls : Array Slot), q_X5_power_36 post k9 v1 v5 v6 vs0 t → va_P D vwCl (fwl adr N (fG adr cs t)) H → va_S (faN adr N) s.heap H locs → lv_has ls 7 [(0, .ref (adr 53)), (1, .int v1), (5, .int v5), (6, .int v6)] → W p l e ({ frames := 3, cells := 0, slots := 0, locals := 75 } : Room) s m args below meth c H locs 0 0 (MQ below (fQi D adr cs N post) args s 0 0 (faN adr N)) (F0 m 36 ls [.int vs0]) := by
  have hx := C.1.1
  have hb := C.1.2.1
  intro v1 v5 v6 vs0 t H locs ls h hP hS hl
  unfold q_X5_power_36 at h
  refine lv_istore (lv' := [(4, .int vs0), (0, .ref (adr 53)), (1, .int v1), (5, .int v5), (6, .int v6)]) hx hb dX5_power_36 hl (by decide) rfl (fun ls hl => ?_)
  refine lv_iload hx hb dX5_power_38 (lv_at hl 4 rfl) ?_
  refine lv_iconst (v := 2) hx hb dX5_power_40 (by decide) ?_
  refine lv_idiv hx hb dX5_power_41 h.1 ?_
  replace h := h.2
  refine lv_topi (fun x1 ex1 => ?_)
  replace h := h x1 ex1
  refine lv_istore (lv' := [(6, .int x1), (4, .int vs0), (0, .ref (adr 53)), (1, .int v1), (5, .int v5)]) hx hb dX5_power_42 hl (by decide) rfl (fun ls hl => ?_)
  refine lv_iload hx hb dX5_power_44 (lv_at hl 0 rfl) ?_
  refine lv_if_le (tgt := 61) hx hb dX5_power_46 (by decide) (fun c9 => ?_) (fun c9 => ?_)
  · replace h := h.1 c9
    refine lv_iload hx hb dX5_power_61 (lv_at hl 4 rfl) ?_
    refine lv_istore (lv' := [(5, .int v5), (6, .int x1), (4, .int vs0), (0, .ref (adr 53)), (1, .int v1)]) hx hb dX5_power_63 hl (by decide) rfl (fun ls hl => ?_)
    refine lv_goto (tgt := 9) hx hb dX5_power_65 (by decide) ?_
    exact hk9 v1 vs0 v5 x1 t _ _ _ h hP hS (lv_sub hl [3, 4, 2, 0, 1] rfl)
  · replace h := h.2 c9
    refine lv_aload_n hx hb dX5_power_49 rfl (lv_at hl 2 rfl) ?_
    refine lv_iload_n hx hb dX5_power_50 rfl (lv_at hl 3 rfl) ?_
    refine lv_iload hx hb dX5_power_51 (lv_at hl 4 rfl) ?_
    refine lv_iload hx hb dX5_power_53 (lv_at hl 4 rfl) ?_
    refine fr_ci (fr_runV (n := 3) (rest := []) C (c_X5_product l D adr cs hN t v1 v5 v5 _ h) hP hS (by omega) (fG_MO adr cs t) rfl (fgV mw_9_17 mw_9_18 mw_9_19 mw_1_5 mw_9_20) rfl rfl rfl (by decide +kernel) ⟨Nat.le_of_ble_eq_true rfl, Nat.le_of_ble_eq_true rfl⟩ rfl hl.1 rfl (Nat.le_of_ble_eq_true rfl) dX5_power_55) hS (fun r3 t2 H locs h hP hS => ?_)
    refine lv_goto (tgt := 63) hx hb dX5_power_58 (by decide) ?_
    refine lv_istore (lv' := [(5, .int r3), (6, .int x1), (4, .int vs0), (0, .ref (adr 53)), (1, .int v1)]) hx hb dX5_power_63 hl (by decide) rfl (fun ls hl => ?_)
    refine lv_goto (tgt := 9) hx hb dX5_power_65 (by decide) ?_
    exact hk9 v1 vs0 r3 x1 t2 _ _ _ h hP hS (lv_sub hl [3, 4, 2, 0, 1] rfl)

set_option maxHeartbeats 4000000 in
set_option maxRecDepth 100000 in
theorem k_X5_power_9 {D : va_G} {adr : Nat → Nat} {cs : Nat → ClassId} {N : Nat} (hN : 67 ≤ N) {p : Program} {l : Launch} {e : Env} {s : State} {m : MethodId} {args : Array Value} {below : List Frame} {meth : Method} {c : Code} (C : fCx D adr cs N p s m args meth c cX5_power 7 (some .int) RX5 wm_X5_power) {post : Int32 → fcS → Prop} : ∀ (n : Nat) (v1 : Int32) (v4 : Int32) (v5 : Int32) (v6 : Int32) (t : fcS) (H : Heap) (locs : List Loc) (ls : Array Slot), q_X5_power_9 post n v1 v4 v5 v6 t → va_P D vwCl (fwl adr N (fG adr cs t)) H → va_S (faN adr N) s.heap H locs → lv_has ls 7 [(0, .ref (adr 53)), (1, .int v1), (4, .int v4), (5, .int v5), (6, .int v6)] → W p l e ({ frames := 3, cells := 0, slots := 0, locals := 75 } : Room) s m args below meth c H locs 0 0 (MQ below (fQi D adr cs N post) args s 0 0 (faN adr N)) (F0 m 9 ls []) := by
  have hx := C.1.1
  have hb := C.1.2.1
  intro n
  induction n with
  | zero => intro v1 v4 v5 v6 t H locs ls h; exact False.elim h
  | succ n ih =>
    intro v1 v4 v5 v6 t H locs ls h hP hS hl
    unfold q_X5_power_9 at h
    refine lv_iload hx hb dX5_power_9 (lv_at hl 4 rfl) ?_
    refine lv_if_le (tgt := 68) hx hb dX5_power_11 (by decide) (fun c9 => ?_) (fun c9 => ?_)
    · replace h := h.1 c9
      refine lv_iload hx hb dX5_power_68 (lv_at hl 2 rfl) ?_
      exact fr_iret C hP hS h dX5_power_70
    · replace h := h.2 c9
      refine lv_iload hx hb dX5_power_14 (lv_at hl 4 rfl) ?_
      refine lv_iconst (v := 2) hx hb dX5_power_16 (by decide) ?_
      refine lv_irem hx hb dX5_power_17 h.1 ?_
      replace h := h.2
      refine lv_iconst (v := 1) hx hb dX5_power_18 (by decide) ?_
      refine lv_icmp_ne (tgt := 34) hx hb dX5_power_19 (by decide) (fun c9 => ?_) (fun c9 => ?_)
      · replace h := h.1 c9
        refine lv_iload hx hb dX5_power_34 (lv_at hl 2 rfl) ?_
        exact k_X5_power_36 hN C ih v1 v5 v6 v4 t _ _ _ h hP hS (lv_sub hl [0, 1, 3, 4] rfl)
      · replace h := h.2 c9
        refine lv_aload_n hx hb dX5_power_22 rfl (lv_at hl 0 rfl) ?_
        refine lv_iload_n hx hb dX5_power_23 rfl (lv_at hl 1 rfl) ?_
        refine lv_iload hx hb dX5_power_24 (lv_at hl 2 rfl) ?_
        refine lv_iload hx hb dX5_power_26 (lv_at hl 3 rfl) ?_
        refine fr_ci (fr_runV (n := 3) (rest := []) C (c_X5_product l D adr cs hN t v1 v4 v5 _ h) hP hS (by omega) (fG_MO adr cs t) rfl (fgV mw_9_17 mw_9_18 mw_9_19 mw_1_5 mw_9_20) rfl rfl rfl (by decide +kernel) ⟨Nat.le_of_ble_eq_true rfl, Nat.le_of_ble_eq_true rfl⟩ rfl hl.1 rfl (Nat.le_of_ble_eq_true rfl) dX5_power_28) hS (fun r5 t4 H locs h hP hS => ?_)
        refine lv_goto (tgt := 36) hx hb dX5_power_31 (by decide) ?_
        exact k_X5_power_36 hN C ih v1 v5 v6 r5 t4 _ _ _ h hP hS (lv_sub hl [0, 1, 3, 4] rfl)

set_option maxHeartbeats 4000000 in
set_option maxRecDepth 100000 in
theorem c_X5_power (l : Launch) (D : va_G) (adr : Nat → Nat) (cs : Nat → ClassId) {N : Nat} (hN : 67 ≤ N) (t : fcS) (a0 : Int32) (a1 : Int32) (a2 : Int32) (post : Int32 → fcS → Prop) (h : q_X5_power t a0 a1 a2 post) : Met l yX5_power wm_X5_power ({ frames := 3, cells := 0, slots := 0, locals := 75 } : Room) (fcPre D adr cs N t [.ref (adr 53), .int a0, .int a1, .int a2]) (fQi D adr cs N post) 0 0 (faN adr N) := by
  refine f_enter (cc := cX5_power) (nL := 7) (ret := some .int) (lv := [(0, .ref (adr 53)), (1, .int a0), (2, .int a1), (3, .int a2)]) (own := RX5) (by decide) rfl (Nat.le_of_ble_eq_true rfl) rfl rfl ?_
  intro p e s m below meth c ls C hP hS hl
  have hx := C.1.1
  have hb := C.1.2.1
  unfold q_X5_power at h
  refine lv_iconst (v := 1) hx hb dX5_power_0 (by decide) ?_
  refine lv_istore (lv' := [(4, .int 1), (0, .ref (adr 53)), (1, .int a0), (2, .int a1), (3, .int a2)]) hx hb dX5_power_1 hl (by decide) rfl (fun ls hl => ?_)
  refine lv_iload_n hx hb dX5_power_3 rfl (lv_at hl 3 rfl) ?_
  refine lv_istore (lv' := [(5, .int a1), (4, .int 1), (0, .ref (adr 53)), (1, .int a0), (2, .int a1), (3, .int a2)]) hx hb dX5_power_4 hl (by decide) rfl (fun ls hl => ?_)
  refine lv_iload_n hx hb dX5_power_6 rfl (lv_at hl 5 rfl) ?_
  refine lv_istore (lv' := [(6, .int a2), (5, .int a1), (4, .int 1), (0, .ref (adr 53)), (1, .int a0), (2, .int a1), (3, .int a2)]) hx hb dX5_power_7 hl (by decide) rfl (fun ls hl => ?_)
  obtain ⟨n9, h⟩ := h
  exact k_X5_power_9 hN C n9 a0 1 a1 a2 t _ _ _ h hP hS (lv_sub hl [3, 4, 2, 1, 0] rfl)

/-! X5.isField -/
abbrev wm_X5_isField : List Cond := Cond.code yX5_isField cX5_isField 2 (some .boolean) :: wsL_law
def q_X5_isField (t : fcS) (a0 : Int32) (post : Int32 → fcS → Prop) : Prop := q_X5_in t ((Int32.toInt64 a0)) 1 ((Int32.toInt64 ((fgi t 53 2)))) (fun (r2 : Int32) (t1 : fcS) => (r2 = 0 ∨ r2 = 1) ∧ (post r2 t1))
set_option maxHeartbeats 4000000 in
set_option maxRecDepth 100000 in
theorem c_X5_isField (l : Launch) (D : va_G) (adr : Nat → Nat) (cs : Nat → ClassId) {N : Nat} (hN : 67 ≤ N) (t : fcS) (a0 : Int32) (post : Int32 → fcS → Prop) (h : q_X5_isField t a0 post) : Met l yX5_isField wm_X5_isField ({ frames := 1, cells := 0, slots := 0, locals := 25 } : Room) (fcPre D adr cs N t [.ref (adr 53), .int a0]) (fQi D adr cs N post) 0 0 (faN adr N) := by
  refine f_enter (cc := cX5_isField) (nL := 2) (ret := some .boolean) (lv := [(0, .ref (adr 53)), (1, .int a0)]) (own := RX5) (by decide) rfl (Nat.le_of_ble_eq_true rfl) rfl rfl ?_
  intro p e s m below meth c ls C hP hS hl
  have hx := C.1.1
  have hb := C.1.2.1
  unfold q_X5_isField at h
  refine lv_iload_n hx hb dX5_isField_0 rfl (lv_at hl 1 rfl) ?_
  refine lv_i2l hx hb dX5_isField_1 rfl ?_
  refine lv_lconst (v := 1) hx hb dX5_isField_2 (by decide) ?_
  refine lv_aload_n hx hb dX5_isField_3 rfl (lv_at hl 0 rfl) ?_
  refine fr_get (j := 2) C hP (by omega) (fG_MO adr cs t) rfl (fun w h => List.mem_cons_of_mem _ (inl_X5 w h)) (by decide) rfl (List.mem_cons_of_mem _ mw_7_6) rfl dX5_isField_4 ?_
  refine lv_i2l hx hb dX5_isField_7 rfl ?_
  refine fr_ci (fr_runS (n := 3) (rest := []) C (c_X5_in l D adr cs hN t ((Int32.toInt64 a0)) 1 ((Int32.toInt64 ((fgi t 53 2)))) _ h) hP hS (fgS mw_11_3 mw_11_4 mw_1_5 mw_11_5) rfl rfl rfl (by decide +kernel) ⟨Nat.le_of_ble_eq_true rfl, Nat.le_of_ble_eq_true rfl⟩ rfl hl.1 rfl (Nat.le_of_ble_eq_true rfl) dX5_isField_8) hS (fun r2 t1 H locs h hP hS => ?_)
  exact fr_zret C hP hS (by rcases h.1 with q | q <;> rw [q] <;> rfl) h.2 dX5_isField_11

/-! X5.isNumber -/
abbrev wm_X5_isNumber : List Cond := Cond.code yX5_isNumber cX5_isNumber 3 (some .boolean) :: wsL_law
def q_X5_isNumber (t : fcS) (a0 : Int32) (a1 : Int32) (post : Int32 → fcS → Prop) : Prop := q_X5_isField t a0 (fun (r2 : Int32) (t1 : fcS) => (r2 = 0 → (post 0 t1)) ∧ (¬ r2 = 0 → ((vp_in a0 6) ∧ (q_X5_in t1 ((Int32.toInt64 a1)) 0 ((Int32.toInt64 (((fga t1 54 (Int32.toNatClampNeg a0)) - 1)))) (fun (r4 : Int32) (t3 : fcS) => (r4 = 0 → (post 0 t3)) ∧ (¬ r4 = 0 → (post 1 t3)))))))
set_option maxHeartbeats 4000000 in
set_option maxRecDepth 100000 in
theorem c_X5_isNumber (l : Launch) (D : va_G) (adr : Nat → Nat) (cs : Nat → ClassId) {N : Nat} (hN : 67 ≤ N) (t : fcS) (a0 : Int32) (a1 : Int32) (post : Int32 → fcS → Prop) (h : q_X5_isNumber t a0 a1 post) : Met l yX5_isNumber wm_X5_isNumber ({ frames := 2, cells := 0, slots := 0, locals := 46 } : Room) (fcPre D adr cs N t [.ref (adr 53), .int a0, .int a1]) (fQi D adr cs N post) 0 0 (faN adr N) := by
  refine f_enter (cc := cX5_isNumber) (nL := 3) (ret := some .boolean) (lv := [(0, .ref (adr 53)), (1, .int a0), (2, .int a1)]) (own := RX5) (by decide) rfl (Nat.le_of_ble_eq_true rfl) rfl rfl ?_
  intro p e s m below meth c ls C hP hS hl
  have hx := C.1.1
  have hb := C.1.2.1
  unfold q_X5_isNumber at h
  refine lv_aload_n hx hb dX5_isNumber_0 rfl (lv_at hl 0 rfl) ?_
  refine lv_iload_n hx hb dX5_isNumber_1 rfl (lv_at hl 1 rfl) ?_
  refine fr_ci (fr_runV (n := 1) (rest := []) C (c_X5_isField l D adr cs hN t a0 _ h) hP hS (by omega) (fG_MO adr cs t) rfl (fgV mw_10_23 mw_11_0 mw_11_1 mw_1_5 mw_11_2) rfl rfl rfl (by decide +kernel) ⟨Nat.le_of_ble_eq_true rfl, Nat.le_of_ble_eq_true rfl⟩ rfl hl.1 rfl (Nat.le_of_ble_eq_true rfl) dX5_isNumber_2) hS (fun r2 t1 H locs h hP hS => ?_)
  refine lv_if_eq (tgt := 30) hx hb dX5_isNumber_5 (by decide) (fun c9 => ?_) (fun c9 => ?_)
  · replace h := h.1 c9
    refine lv_iconst (v := 0) hx hb dX5_isNumber_30 (by decide) ?_
    exact fr_zret C hP hS rfl h dX5_isNumber_31
  · replace h := h.2 c9
    refine lv_iload_n hx hb dX5_isNumber_8 rfl (lv_at hl 2 rfl) ?_
    refine lv_i2l hx hb dX5_isNumber_9 rfl ?_
    refine lv_lconst (v := 0) hx hb dX5_isNumber_10 (by decide) ?_
    refine lv_aload_n hx hb dX5_isNumber_11 rfl (lv_at hl 0 rfl) ?_
    refine fr_get (j := 3) C hP (by omega) (fG_MO adr cs t1) rfl (fun w h => List.mem_cons_of_mem _ (inl_X5 w h)) (by decide) rfl (List.mem_cons_of_mem _ mw_7_7) rfl dX5_isNumber_12 ?_
    refine lv_iload_n hx hb dX5_isNumber_15 rfl (lv_at hl 1 rfl) ?_
    refine fr_iald C hP (by omega) (fG_54 adr cs t1) h.1 dX5_isNumber_16 ?_
    replace h := h.2
    refine lv_iconst (v := 1) hx hb dX5_isNumber_17 (by decide) ?_
    refine lv_isub hx hb dX5_isNumber_18 ?_
    refine lv_i2l hx hb dX5_isNumber_19 rfl ?_
    refine fr_ci (fr_runS (n := 3) (rest := []) C (c_X5_in l D adr cs hN t1 ((Int32.toInt64 a1)) 0 ((Int32.toInt64 (((fga t1 54 (Int32.toNatClampNeg a0)) - 1)))) _ h) hP hS (fgS mw_11_3 mw_11_4 mw_1_5 mw_11_5) rfl rfl rfl (by decide +kernel) ⟨Nat.le_of_ble_eq_true rfl, Nat.le_of_ble_eq_true rfl⟩ rfl hl.1 rfl (Nat.le_of_ble_eq_true rfl) dX5_isNumber_20) hS (fun r4 t3 H locs h hP hS => ?_)
    refine lv_if_eq (tgt := 30) hx hb dX5_isNumber_23 (by decide) (fun c9 => ?_) (fun c9 => ?_)
    · replace h := h.1 c9
      refine lv_iconst (v := 0) hx hb dX5_isNumber_30 (by decide) ?_
      exact fr_zret C hP hS rfl h dX5_isNumber_31
    · replace h := h.2 c9
      refine lv_iconst (v := 1) hx hb dX5_isNumber_26 (by decide) ?_
      refine lv_goto (tgt := 31) hx hb dX5_isNumber_27 (by decide) ?_
      exact fr_zret C hP hS rfl h dX5_isNumber_31

/-! X5.prime -/
abbrev wm_X5_prime : List Cond := Cond.code yX5_prime cX5_prime 2 (some .int) :: wsL_law
def q_X5_prime (t : fcS) (a0 : Int32) (post : Int32 → fcS → Prop) : Prop := ∀ t1 : fcS, t1 = fsi t 53 0 0 → ((a0 = 3 → (q_X5_begins t1 a0 (fun (t2 : fcS) => post ((fgi t2 53 2)) t2))) ∧ (¬ a0 = 3 → ((a0 = 5 → (q_X5_begins t1 a0 (fun (t3 : fcS) => post ((fgi t3 53 2)) t3))) ∧ (¬ a0 = 5 → ((a0 = 7 → (q_X5_begins t1 a0 (fun (t4 : fcS) => post ((fgi t4 53 2)) t4))) ∧ (¬ a0 = 7 → ((a0 = 11 → (q_X5_begins t1 a0 (fun (t5 : fcS) => post ((fgi t5 53 2)) t5))) ∧ (¬ a0 = 11 → ((a0 = 13 → (q_X5_begins t1 a0 (fun (t6 : fcS) => post ((fgi t6 53 2)) t6))) ∧ (¬ a0 = 13 → (post ((-1)) t1)))))))))))
set_option maxHeartbeats 4000000 in
set_option maxRecDepth 100000 in
theorem c_X5_prime (l : Launch) (D : va_G) (adr : Nat → Nat) (cs : Nat → ClassId) {N : Nat} (hN : 67 ≤ N) (t : fcS) (a0 : Int32) (post : Int32 → fcS → Prop) (h : q_X5_prime t a0 post) : Met l yX5_prime wm_X5_prime ({ frames := 5, cells := 0, slots := 0, locals := 119 } : Room) (fcPre D adr cs N t [.ref (adr 53), .int a0]) (fQi D adr cs N post) 0 0 (faN adr N) := by
  refine f_enter (cc := cX5_prime) (nL := 2) (ret := some .int) (lv := [(0, .ref (adr 53)), (1, .int a0)]) (own := RX5) (by decide) rfl (Nat.le_of_ble_eq_true rfl) rfl rfl ?_
  intro p e s m below meth c ls C hP hS hl
  have hx := C.1.1
  have hb := C.1.2.1
  unfold q_X5_prime at h
  refine lv_aload_n hx hb dX5_prime_0 rfl (lv_at hl 0 rfl) ?_
  refine lv_iconst (v := 0) hx hb dX5_prime_1 (by decide) ?_
  refine fr_put C (fsi t 53 0 0) (j := 0) (ty := .int) hP hS (by omega) (fG_MO adr cs t) rfl (fun w h => List.mem_cons_of_mem _ (inl_X5 w h)) tyX5_ok nmX5 (by decide) rfl (List.mem_cons_of_mem _ mw_10_14) rfl (by decide +kernel) rfl rfl (Nat.le_of_ble_eq_true rfl) (fS_MO_0 adr cs t 0) (fG_fsi_ne adr cs t 53 0 0) dX5_prime_2 (fun H locs hP hS => ?_)
  obtain ⟨t1, et1⟩ : ∃ y : fcS, y = fsi t 53 0 0 := ⟨_, rfl⟩
  rw [← et1] at hP
  replace h := h t1 et1
  refine lv_iload_n hx hb dX5_prime_5 rfl (lv_at hl 1 rfl) ?_
  refine lv_iconst (v := 3) hx hb dX5_prime_6 (by decide) ?_
  refine lv_icmp_eq (tgt := 35) hx hb dX5_prime_7 (by decide) (fun c9 => ?_) (fun c9 => ?_)
  · replace h := h.1 c9
    refine lv_aload_n hx hb dX5_prime_35 rfl (lv_at hl 0 rfl) ?_
    refine lv_iload_n hx hb dX5_prime_36 rfl (lv_at hl 1 rfl) ?_
    refine fr_cv (fr_runV (n := 1) (rest := []) C (c_X5_begins l D adr cs hN t1 a0 _ h) hP hS (by omega) (fG_MO adr cs t1) rfl (fgV mw_7_22 mw_7_23 mw_8_0 mw_1_5 mw_8_1) rfl rfl rfl (by decide +kernel) ⟨Nat.le_of_ble_eq_true rfl, Nat.le_of_ble_eq_true rfl⟩ rfl hl.1 rfl (Nat.le_of_ble_eq_true rfl) dX5_prime_37) hS (fun t2 H locs h hP hS => ?_)
    refine lv_aload_n hx hb dX5_prime_40 rfl (lv_at hl 0 rfl) ?_
    refine fr_get (j := 2) C hP (by omega) (fG_MO adr cs t2) rfl (fun w h => List.mem_cons_of_mem _ (inl_X5 w h)) (by decide) rfl (List.mem_cons_of_mem _ mw_7_6) rfl dX5_prime_41 ?_
    exact fr_iret C hP hS h dX5_prime_44
  · replace h := h.2 c9
    refine lv_iload_n hx hb dX5_prime_10 rfl (lv_at hl 1 rfl) ?_
    refine lv_iconst (v := 5) hx hb dX5_prime_11 (by decide) ?_
    refine lv_icmp_eq (tgt := 35) hx hb dX5_prime_12 (by decide) (fun c9 => ?_) (fun c9 => ?_)
    · replace h := h.1 c9
      refine lv_aload_n hx hb dX5_prime_35 rfl (lv_at hl 0 rfl) ?_
      refine lv_iload_n hx hb dX5_prime_36 rfl (lv_at hl 1 rfl) ?_
      refine fr_cv (fr_runV (n := 1) (rest := []) C (c_X5_begins l D adr cs hN t1 a0 _ h) hP hS (by omega) (fG_MO adr cs t1) rfl (fgV mw_7_22 mw_7_23 mw_8_0 mw_1_5 mw_8_1) rfl rfl rfl (by decide +kernel) ⟨Nat.le_of_ble_eq_true rfl, Nat.le_of_ble_eq_true rfl⟩ rfl hl.1 rfl (Nat.le_of_ble_eq_true rfl) dX5_prime_37) hS (fun t3 H locs h hP hS => ?_)
      refine lv_aload_n hx hb dX5_prime_40 rfl (lv_at hl 0 rfl) ?_
      refine fr_get (j := 2) C hP (by omega) (fG_MO adr cs t3) rfl (fun w h => List.mem_cons_of_mem _ (inl_X5 w h)) (by decide) rfl (List.mem_cons_of_mem _ mw_7_6) rfl dX5_prime_41 ?_
      exact fr_iret C hP hS h dX5_prime_44
    · replace h := h.2 c9
      refine lv_iload_n hx hb dX5_prime_15 rfl (lv_at hl 1 rfl) ?_
      refine lv_bipush (v := 7) hx hb dX5_prime_16 (by decide) ?_
      refine lv_icmp_eq (tgt := 35) hx hb dX5_prime_18 (by decide) (fun c9 => ?_) (fun c9 => ?_)
      · replace h := h.1 c9
        refine lv_aload_n hx hb dX5_prime_35 rfl (lv_at hl 0 rfl) ?_
        refine lv_iload_n hx hb dX5_prime_36 rfl (lv_at hl 1 rfl) ?_
        refine fr_cv (fr_runV (n := 1) (rest := []) C (c_X5_begins l D adr cs hN t1 a0 _ h) hP hS (by omega) (fG_MO adr cs t1) rfl (fgV mw_7_22 mw_7_23 mw_8_0 mw_1_5 mw_8_1) rfl rfl rfl (by decide +kernel) ⟨Nat.le_of_ble_eq_true rfl, Nat.le_of_ble_eq_true rfl⟩ rfl hl.1 rfl (Nat.le_of_ble_eq_true rfl) dX5_prime_37) hS (fun t4 H locs h hP hS => ?_)
        refine lv_aload_n hx hb dX5_prime_40 rfl (lv_at hl 0 rfl) ?_
        refine fr_get (j := 2) C hP (by omega) (fG_MO adr cs t4) rfl (fun w h => List.mem_cons_of_mem _ (inl_X5 w h)) (by decide) rfl (List.mem_cons_of_mem _ mw_7_6) rfl dX5_prime_41 ?_
        exact fr_iret C hP hS h dX5_prime_44
      · replace h := h.2 c9
        refine lv_iload_n hx hb dX5_prime_21 rfl (lv_at hl 1 rfl) ?_
        refine lv_bipush (v := 11) hx hb dX5_prime_22 (by decide) ?_
        refine lv_icmp_eq (tgt := 35) hx hb dX5_prime_24 (by decide) (fun c9 => ?_) (fun c9 => ?_)
        · replace h := h.1 c9
          refine lv_aload_n hx hb dX5_prime_35 rfl (lv_at hl 0 rfl) ?_
          refine lv_iload_n hx hb dX5_prime_36 rfl (lv_at hl 1 rfl) ?_
          refine fr_cv (fr_runV (n := 1) (rest := []) C (c_X5_begins l D adr cs hN t1 a0 _ h) hP hS (by omega) (fG_MO adr cs t1) rfl (fgV mw_7_22 mw_7_23 mw_8_0 mw_1_5 mw_8_1) rfl rfl rfl (by decide +kernel) ⟨Nat.le_of_ble_eq_true rfl, Nat.le_of_ble_eq_true rfl⟩ rfl hl.1 rfl (Nat.le_of_ble_eq_true rfl) dX5_prime_37) hS (fun t5 H locs h hP hS => ?_)
          refine lv_aload_n hx hb dX5_prime_40 rfl (lv_at hl 0 rfl) ?_
          refine fr_get (j := 2) C hP (by omega) (fG_MO adr cs t5) rfl (fun w h => List.mem_cons_of_mem _ (inl_X5 w h)) (by decide) rfl (List.mem_cons_of_mem _ mw_7_6) rfl dX5_prime_41 ?_
          exact fr_iret C hP hS h dX5_prime_44
        · replace h := h.2 c9
          refine lv_iload_n hx hb dX5_prime_27 rfl (lv_at hl 1 rfl) ?_
          refine lv_bipush (v := 13) hx hb dX5_prime_28 (by decide) ?_
          refine lv_icmp_eq (tgt := 35) hx hb dX5_prime_30 (by decide) (fun c9 => ?_) (fun c9 => ?_)
          · replace h := h.1 c9
            refine lv_aload_n hx hb dX5_prime_35 rfl (lv_at hl 0 rfl) ?_
            refine lv_iload_n hx hb dX5_prime_36 rfl (lv_at hl 1 rfl) ?_
            refine fr_cv (fr_runV (n := 1) (rest := []) C (c_X5_begins l D adr cs hN t1 a0 _ h) hP hS (by omega) (fG_MO adr cs t1) rfl (fgV mw_7_22 mw_7_23 mw_8_0 mw_1_5 mw_8_1) rfl rfl rfl (by decide +kernel) ⟨Nat.le_of_ble_eq_true rfl, Nat.le_of_ble_eq_true rfl⟩ rfl hl.1 rfl (Nat.le_of_ble_eq_true rfl) dX5_prime_37) hS (fun t6 H locs h hP hS => ?_)
            refine lv_aload_n hx hb dX5_prime_40 rfl (lv_at hl 0 rfl) ?_
            refine fr_get (j := 2) C hP (by omega) (fG_MO adr cs t6) rfl (fun w h => List.mem_cons_of_mem _ (inl_X5 w h)) (by decide) rfl (List.mem_cons_of_mem _ mw_7_6) rfl dX5_prime_41 ?_
            exact fr_iret C hP hS h dX5_prime_44
          · replace h := h.2 c9
            refine lv_iconst (v := (-1)) hx hb dX5_prime_33 (by decide) ?_
            exact fr_iret C hP hS h dX5_prime_34

/-! X5.size -/
abbrev wm_X5_size : List Cond := Cond.code yX5_size cX5_size 2 (some .int) :: wsL_law
def q_X5_size (t : fcS) (a0 : Int32) (post : Int32 → fcS → Prop) : Prop := ∀ t1 : fcS, t1 = fsi t 53 0 0 → (q_X5_isField t1 a0 (fun (r3 : Int32) (t2 : fcS) => (r3 = 0 → (post ((-1)) t2)) ∧ (¬ r3 = 0 → ((vp_in a0 6) ∧ (post ((fga t2 54 (Int32.toNatClampNeg a0))) t2)))))
set_option maxHeartbeats 4000000 in
set_option maxRecDepth 100000 in
theorem c_X5_size (l : Launch) (D : va_G) (adr : Nat → Nat) (cs : Nat → ClassId) {N : Nat} (hN : 67 ≤ N) (t : fcS) (a0 : Int32) (post : Int32 → fcS → Prop) (h : q_X5_size t a0 post) : Met l yX5_size wm_X5_size ({ frames := 2, cells := 0, slots := 0, locals := 46 } : Room) (fcPre D adr cs N t [.ref (adr 53), .int a0]) (fQi D adr cs N post) 0 0 (faN adr N) := by
  refine f_enter (cc := cX5_size) (nL := 2) (ret := some .int) (lv := [(0, .ref (adr 53)), (1, .int a0)]) (own := RX5) (by decide) rfl (Nat.le_of_ble_eq_true rfl) rfl rfl ?_
  intro p e s m below meth c ls C hP hS hl
  have hx := C.1.1
  have hb := C.1.2.1
  unfold q_X5_size at h
  refine lv_aload_n hx hb dX5_size_0 rfl (lv_at hl 0 rfl) ?_
  refine lv_iconst (v := 0) hx hb dX5_size_1 (by decide) ?_
  refine fr_put C (fsi t 53 0 0) (j := 0) (ty := .int) hP hS (by omega) (fG_MO adr cs t) rfl (fun w h => List.mem_cons_of_mem _ (inl_X5 w h)) tyX5_ok nmX5 (by decide) rfl (List.mem_cons_of_mem _ mw_10_14) rfl (by decide +kernel) rfl rfl (Nat.le_of_ble_eq_true rfl) (fS_MO_0 adr cs t 0) (fG_fsi_ne adr cs t 53 0 0) dX5_size_2 (fun H locs hP hS => ?_)
  obtain ⟨t1, et1⟩ : ∃ y : fcS, y = fsi t 53 0 0 := ⟨_, rfl⟩
  rw [← et1] at hP
  replace h := h t1 et1
  refine lv_aload_n hx hb dX5_size_5 rfl (lv_at hl 0 rfl) ?_
  refine lv_iload_n hx hb dX5_size_6 rfl (lv_at hl 1 rfl) ?_
  refine fr_ci (fr_runV (n := 1) (rest := []) C (c_X5_isField l D adr cs hN t1 a0 _ h) hP hS (by omega) (fG_MO adr cs t1) rfl (fgV mw_10_23 mw_11_0 mw_11_1 mw_1_5 mw_11_2) rfl rfl rfl (by decide +kernel) ⟨Nat.le_of_ble_eq_true rfl, Nat.le_of_ble_eq_true rfl⟩ rfl hl.1 rfl (Nat.le_of_ble_eq_true rfl) dX5_size_7) hS (fun r3 t2 H locs h hP hS => ?_)
  refine lv_if_eq (tgt := 22) hx hb dX5_size_10 (by decide) (fun c9 => ?_) (fun c9 => ?_)
  · replace h := h.1 c9
    refine lv_iconst (v := (-1)) hx hb dX5_size_22 (by decide) ?_
    exact fr_iret C hP hS h dX5_size_23
  · replace h := h.2 c9
    refine lv_aload_n hx hb dX5_size_13 rfl (lv_at hl 0 rfl) ?_
    refine fr_get (j := 3) C hP (by omega) (fG_MO adr cs t2) rfl (fun w h => List.mem_cons_of_mem _ (inl_X5 w h)) (by decide) rfl (List.mem_cons_of_mem _ mw_7_7) rfl dX5_size_14 ?_
    refine lv_iload_n hx hb dX5_size_17 rfl (lv_at hl 1 rfl) ?_
    refine fr_iald C hP (by omega) (fG_54 adr cs t2) h.1 dX5_size_18 ?_
    replace h := h.2
    refine lv_goto (tgt := 23) hx hb dX5_size_19 (by decide) ?_
    exact fr_iret C hP hS h dX5_size_23

/-! X5.modulus -/
abbrev wm_X5_modulus : List Cond := Cond.code yX5_modulus cX5_modulus 2 (some .int) :: wsL_law
def q_X5_modulus (t : fcS) (a0 : Int32) (post : Int32 → fcS → Prop) : Prop := ∀ t1 : fcS, t1 = fsi t 53 0 0 → (q_X5_isField t1 a0 (fun (r3 : Int32) (t2 : fcS) => (r3 = 0 → (post ((-1)) t2)) ∧ (¬ r3 = 0 → ((vp_in a0 6) ∧ (post ((fga t2 55 (Int32.toNatClampNeg a0))) t2)))))
set_option maxHeartbeats 4000000 in
set_option maxRecDepth 100000 in
theorem c_X5_modulus (l : Launch) (D : va_G) (adr : Nat → Nat) (cs : Nat → ClassId) {N : Nat} (hN : 67 ≤ N) (t : fcS) (a0 : Int32) (post : Int32 → fcS → Prop) (h : q_X5_modulus t a0 post) : Met l yX5_modulus wm_X5_modulus ({ frames := 2, cells := 0, slots := 0, locals := 46 } : Room) (fcPre D adr cs N t [.ref (adr 53), .int a0]) (fQi D adr cs N post) 0 0 (faN adr N) := by
  refine f_enter (cc := cX5_modulus) (nL := 2) (ret := some .int) (lv := [(0, .ref (adr 53)), (1, .int a0)]) (own := RX5) (by decide) rfl (Nat.le_of_ble_eq_true rfl) rfl rfl ?_
  intro p e s m below meth c ls C hP hS hl
  have hx := C.1.1
  have hb := C.1.2.1
  unfold q_X5_modulus at h
  refine lv_aload_n hx hb dX5_modulus_0 rfl (lv_at hl 0 rfl) ?_
  refine lv_iconst (v := 0) hx hb dX5_modulus_1 (by decide) ?_
  refine fr_put C (fsi t 53 0 0) (j := 0) (ty := .int) hP hS (by omega) (fG_MO adr cs t) rfl (fun w h => List.mem_cons_of_mem _ (inl_X5 w h)) tyX5_ok nmX5 (by decide) rfl (List.mem_cons_of_mem _ mw_10_14) rfl (by decide +kernel) rfl rfl (Nat.le_of_ble_eq_true rfl) (fS_MO_0 adr cs t 0) (fG_fsi_ne adr cs t 53 0 0) dX5_modulus_2 (fun H locs hP hS => ?_)
  obtain ⟨t1, et1⟩ : ∃ y : fcS, y = fsi t 53 0 0 := ⟨_, rfl⟩
  rw [← et1] at hP
  replace h := h t1 et1
  refine lv_aload_n hx hb dX5_modulus_5 rfl (lv_at hl 0 rfl) ?_
  refine lv_iload_n hx hb dX5_modulus_6 rfl (lv_at hl 1 rfl) ?_
  refine fr_ci (fr_runV (n := 1) (rest := []) C (c_X5_isField l D adr cs hN t1 a0 _ h) hP hS (by omega) (fG_MO adr cs t1) rfl (fgV mw_10_23 mw_11_0 mw_11_1 mw_1_5 mw_11_2) rfl rfl rfl (by decide +kernel) ⟨Nat.le_of_ble_eq_true rfl, Nat.le_of_ble_eq_true rfl⟩ rfl hl.1 rfl (Nat.le_of_ble_eq_true rfl) dX5_modulus_7) hS (fun r3 t2 H locs h hP hS => ?_)
  refine lv_if_eq (tgt := 22) hx hb dX5_modulus_10 (by decide) (fun c9 => ?_) (fun c9 => ?_)
  · replace h := h.1 c9
    refine lv_iconst (v := (-1)) hx hb dX5_modulus_22 (by decide) ?_
    exact fr_iret C hP hS h dX5_modulus_23
  · replace h := h.2 c9
    refine lv_aload_n hx hb dX5_modulus_13 rfl (lv_at hl 0 rfl) ?_
    refine fr_get (j := 4) C hP (by omega) (fG_MO adr cs t2) rfl (fun w h => List.mem_cons_of_mem _ (inl_X5 w h)) (by decide) rfl (List.mem_cons_of_mem _ mw_7_8) rfl dX5_modulus_14 ?_
    refine lv_iload_n hx hb dX5_modulus_17 rfl (lv_at hl 1 rfl) ?_
    refine fr_iald C hP (by omega) (fG_55 adr cs t2) h.1 dX5_modulus_18 ?_
    replace h := h.2
    refine lv_goto (tgt := 23) hx hb dX5_modulus_19 (by decide) ?_
    exact fr_iret C hP hS h dX5_modulus_23

/-! X5.plus -/
abbrev wm_X5_plus : List Cond := Cond.code yX5_plus cX5_plus 4 (some .int) :: wsL_law
def q_X5_plus (t : fcS) (a0 : Int32) (a1 : Int32) (a2 : Int32) (post : Int32 → fcS → Prop) : Prop := ∀ t1 : fcS, t1 = fsi t 53 0 0 → (q_X5_isNumber t1 a0 a1 (fun (r3 : Int32) (t2 : fcS) => (r3 = 0 → (post ((-1)) t2)) ∧ (¬ r3 = 0 → (q_X5_isNumber t2 a0 a2 (fun (r5 : Int32) (t4 : fcS) => (r5 = 0 → (post ((-1)) t4)) ∧ (¬ r5 = 0 → (q_X5_sum t4 a1 a2 (fun (r7 : Int32) (t6 : fcS) => post r7 t6))))))))
set_option maxHeartbeats 4000000 in
set_option maxRecDepth 100000 in
theorem c_X5_plus (l : Launch) (D : va_G) (adr : Nat → Nat) (cs : Nat → ClassId) {N : Nat} (hN : 67 ≤ N) (t : fcS) (a0 : Int32) (a1 : Int32) (a2 : Int32) (post : Int32 → fcS → Prop) (h : q_X5_plus t a0 a1 a2 post) : Met l yX5_plus wm_X5_plus ({ frames := 3, cells := 0, slots := 0, locals := 68 } : Room) (fcPre D adr cs N t [.ref (adr 53), .int a0, .int a1, .int a2]) (fQi D adr cs N post) 0 0 (faN adr N) := by
  refine f_enter (cc := cX5_plus) (nL := 4) (ret := some .int) (lv := [(0, .ref (adr 53)), (1, .int a0), (2, .int a1), (3, .int a2)]) (own := RX5) (by decide) rfl (Nat.le_of_ble_eq_true rfl) rfl rfl ?_
  intro p e s m below meth c ls C hP hS hl
  have hx := C.1.1
  have hb := C.1.2.1
  unfold q_X5_plus at h
  refine lv_aload_n hx hb dX5_plus_0 rfl (lv_at hl 0 rfl) ?_
  refine lv_iconst (v := 0) hx hb dX5_plus_1 (by decide) ?_
  refine fr_put C (fsi t 53 0 0) (j := 0) (ty := .int) hP hS (by omega) (fG_MO adr cs t) rfl (fun w h => List.mem_cons_of_mem _ (inl_X5 w h)) tyX5_ok nmX5 (by decide) rfl (List.mem_cons_of_mem _ mw_10_14) rfl (by decide +kernel) rfl rfl (Nat.le_of_ble_eq_true rfl) (fS_MO_0 adr cs t 0) (fG_fsi_ne adr cs t 53 0 0) dX5_plus_2 (fun H locs hP hS => ?_)
  obtain ⟨t1, et1⟩ : ∃ y : fcS, y = fsi t 53 0 0 := ⟨_, rfl⟩
  rw [← et1] at hP
  replace h := h t1 et1
  refine lv_aload_n hx hb dX5_plus_5 rfl (lv_at hl 0 rfl) ?_
  refine lv_iload_n hx hb dX5_plus_6 rfl (lv_at hl 1 rfl) ?_
  refine lv_iload_n hx hb dX5_plus_7 rfl (lv_at hl 2 rfl) ?_
  refine fr_ci (fr_runV (n := 2) (rest := []) C (c_X5_isNumber l D adr cs hN t1 a0 a1 _ h) hP hS (by omega) (fG_MO adr cs t1) rfl (fgV mw_12_3 mw_12_4 mw_12_5 mw_1_5 mw_12_6) rfl rfl rfl (by decide +kernel) ⟨Nat.le_of_ble_eq_true rfl, Nat.le_of_ble_eq_true rfl⟩ rfl hl.1 rfl (Nat.le_of_ble_eq_true rfl) dX5_plus_8) hS (fun r3 t2 H locs h hP hS => ?_)
  refine lv_if_eq (tgt := 32) hx hb dX5_plus_11 (by decide) (fun c9 => ?_) (fun c9 => ?_)
  · replace h := h.1 c9
    refine lv_iconst (v := (-1)) hx hb dX5_plus_32 (by decide) ?_
    exact fr_iret C hP hS h dX5_plus_33
  · replace h := h.2 c9
    refine lv_aload_n hx hb dX5_plus_14 rfl (lv_at hl 0 rfl) ?_
    refine lv_iload_n hx hb dX5_plus_15 rfl (lv_at hl 1 rfl) ?_
    refine lv_iload_n hx hb dX5_plus_16 rfl (lv_at hl 3 rfl) ?_
    refine fr_ci (fr_runV (n := 2) (rest := []) C (c_X5_isNumber l D adr cs hN t2 a0 a2 _ h) hP hS (by omega) (fG_MO adr cs t2) rfl (fgV mw_12_3 mw_12_4 mw_12_5 mw_1_5 mw_12_6) rfl rfl rfl (by decide +kernel) ⟨Nat.le_of_ble_eq_true rfl, Nat.le_of_ble_eq_true rfl⟩ rfl hl.1 rfl (Nat.le_of_ble_eq_true rfl) dX5_plus_17) hS (fun r5 t4 H locs h hP hS => ?_)
    refine lv_if_eq (tgt := 32) hx hb dX5_plus_20 (by decide) (fun c9 => ?_) (fun c9 => ?_)
    · replace h := h.1 c9
      refine lv_iconst (v := (-1)) hx hb dX5_plus_32 (by decide) ?_
      exact fr_iret C hP hS h dX5_plus_33
    · replace h := h.2 c9
      refine lv_aload_n hx hb dX5_plus_23 rfl (lv_at hl 0 rfl) ?_
      refine lv_iload_n hx hb dX5_plus_24 rfl (lv_at hl 2 rfl) ?_
      refine lv_iload_n hx hb dX5_plus_25 rfl (lv_at hl 3 rfl) ?_
      refine fr_ci (fr_runV (n := 2) (rest := []) C (c_X5_sum l D adr cs hN t4 a1 a2 _ h) hP hS (by omega) (fG_MO adr cs t4) rfl (fgV mw_12_7 mw_12_8 mw_12_9 mw_1_5 mw_12_10) rfl rfl rfl (by decide +kernel) ⟨Nat.le_of_ble_eq_true rfl, Nat.le_of_ble_eq_true rfl⟩ rfl hl.1 rfl (Nat.le_of_ble_eq_true rfl) dX5_plus_26) hS (fun r7 t6 H locs h hP hS => ?_)
      refine lv_goto (tgt := 33) hx hb dX5_plus_29 (by decide) ?_
      exact fr_iret C hP hS h dX5_plus_33

/-! X5.times -/
abbrev wm_X5_times : List Cond := Cond.code yX5_times cX5_times 4 (some .int) :: wsL_law
def q_X5_times (t : fcS) (a0 : Int32) (a1 : Int32) (a2 : Int32) (post : Int32 → fcS → Prop) : Prop := ∀ t1 : fcS, t1 = fsi t 53 0 0 → (q_X5_isNumber t1 a0 a1 (fun (r3 : Int32) (t2 : fcS) => (r3 = 0 → (post ((-1)) t2)) ∧ (¬ r3 = 0 → (q_X5_isNumber t2 a0 a2 (fun (r5 : Int32) (t4 : fcS) => (r5 = 0 → (post ((-1)) t4)) ∧ (¬ r5 = 0 → (q_X5_product t4 a0 a1 a2 (fun (r7 : Int32) (t6 : fcS) => post r7 t6))))))))
set_option maxHeartbeats 4000000 in
set_option maxRecDepth 100000 in
theorem c_X5_times (l : Launch) (D : va_G) (adr : Nat → Nat) (cs : Nat → ClassId) {N : Nat} (hN : 67 ≤ N) (t : fcS) (a0 : Int32) (a1 : Int32) (a2 : Int32) (post : Int32 → fcS → Prop) (h : q_X5_times t a0 a1 a2 post) : Met l yX5_times wm_X5_times ({ frames := 3, cells := 0, slots := 0, locals := 75 } : Room) (fcPre D adr cs N t [.ref (adr 53), .int a0, .int a1, .int a2]) (fQi D adr cs N post) 0 0 (faN adr N) := by
  refine f_enter (cc := cX5_times) (nL := 4) (ret := some .int) (lv := [(0, .ref (adr 53)), (1, .int a0), (2, .int a1), (3, .int a2)]) (own := RX5) (by decide) rfl (Nat.le_of_ble_eq_true rfl) rfl rfl ?_
  intro p e s m below meth c ls C hP hS hl
  have hx := C.1.1
  have hb := C.1.2.1
  unfold q_X5_times at h
  refine lv_aload_n hx hb dX5_times_0 rfl (lv_at hl 0 rfl) ?_
  refine lv_iconst (v := 0) hx hb dX5_times_1 (by decide) ?_
  refine fr_put C (fsi t 53 0 0) (j := 0) (ty := .int) hP hS (by omega) (fG_MO adr cs t) rfl (fun w h => List.mem_cons_of_mem _ (inl_X5 w h)) tyX5_ok nmX5 (by decide) rfl (List.mem_cons_of_mem _ mw_10_14) rfl (by decide +kernel) rfl rfl (Nat.le_of_ble_eq_true rfl) (fS_MO_0 adr cs t 0) (fG_fsi_ne adr cs t 53 0 0) dX5_times_2 (fun H locs hP hS => ?_)
  obtain ⟨t1, et1⟩ : ∃ y : fcS, y = fsi t 53 0 0 := ⟨_, rfl⟩
  rw [← et1] at hP
  replace h := h t1 et1
  refine lv_aload_n hx hb dX5_times_5 rfl (lv_at hl 0 rfl) ?_
  refine lv_iload_n hx hb dX5_times_6 rfl (lv_at hl 1 rfl) ?_
  refine lv_iload_n hx hb dX5_times_7 rfl (lv_at hl 2 rfl) ?_
  refine fr_ci (fr_runV (n := 2) (rest := []) C (c_X5_isNumber l D adr cs hN t1 a0 a1 _ h) hP hS (by omega) (fG_MO adr cs t1) rfl (fgV mw_12_3 mw_12_4 mw_12_5 mw_1_5 mw_12_6) rfl rfl rfl (by decide +kernel) ⟨Nat.le_of_ble_eq_true rfl, Nat.le_of_ble_eq_true rfl⟩ rfl hl.1 rfl (Nat.le_of_ble_eq_true rfl) dX5_times_8) hS (fun r3 t2 H locs h hP hS => ?_)
  refine lv_if_eq (tgt := 33) hx hb dX5_times_11 (by decide) (fun c9 => ?_) (fun c9 => ?_)
  · replace h := h.1 c9
    refine lv_iconst (v := (-1)) hx hb dX5_times_33 (by decide) ?_
    exact fr_iret C hP hS h dX5_times_34
  · replace h := h.2 c9
    refine lv_aload_n hx hb dX5_times_14 rfl (lv_at hl 0 rfl) ?_
    refine lv_iload_n hx hb dX5_times_15 rfl (lv_at hl 1 rfl) ?_
    refine lv_iload_n hx hb dX5_times_16 rfl (lv_at hl 3 rfl) ?_
    refine fr_ci (fr_runV (n := 2) (rest := []) C (c_X5_isNumber l D adr cs hN t2 a0 a2 _ h) hP hS (by omega) (fG_MO adr cs t2) rfl (fgV mw_12_3 mw_12_4 mw_12_5 mw_1_5 mw_12_6) rfl rfl rfl (by decide +kernel) ⟨Nat.le_of_ble_eq_true rfl, Nat.le_of_ble_eq_true rfl⟩ rfl hl.1 rfl (Nat.le_of_ble_eq_true rfl) dX5_times_17) hS (fun r5 t4 H locs h hP hS => ?_)
    refine lv_if_eq (tgt := 33) hx hb dX5_times_20 (by decide) (fun c9 => ?_) (fun c9 => ?_)
    · replace h := h.1 c9
      refine lv_iconst (v := (-1)) hx hb dX5_times_33 (by decide) ?_
      exact fr_iret C hP hS h dX5_times_34
    · replace h := h.2 c9
      refine lv_aload_n hx hb dX5_times_23 rfl (lv_at hl 0 rfl) ?_
      refine lv_iload_n hx hb dX5_times_24 rfl (lv_at hl 1 rfl) ?_
      refine lv_iload_n hx hb dX5_times_25 rfl (lv_at hl 2 rfl) ?_
      refine lv_iload_n hx hb dX5_times_26 rfl (lv_at hl 3 rfl) ?_
      refine fr_ci (fr_runV (n := 3) (rest := []) C (c_X5_product l D adr cs hN t4 a0 a1 a2 _ h) hP hS (by omega) (fG_MO adr cs t4) rfl (fgV mw_9_17 mw_9_18 mw_9_19 mw_1_5 mw_9_20) rfl rfl rfl (by decide +kernel) ⟨Nat.le_of_ble_eq_true rfl, Nat.le_of_ble_eq_true rfl⟩ rfl hl.1 rfl (Nat.le_of_ble_eq_true rfl) dX5_times_27) hS (fun r7 t6 H locs h hP hS => ?_)
      refine lv_goto (tgt := 34) hx hb dX5_times_30 (by decide) ?_
      exact fr_iret C hP hS h dX5_times_34

/-! X5.over -/
abbrev wm_X5_over : List Cond := Cond.code yX5_over cX5_over 4 (some .int) :: wsL_law
def q_X5_over_25 (post : Int32 → fcS → Prop) : Nat → Int32 → Int32 → Int32 → fcS → Prop
  | 0, _, _, _, _ => False
  | n + 1, v1, v2, v3, t => q_X5_product t v1 v2 v3 (fun (r5 : Int32) (t4 : fcS) => (r5 = 1 → (post v3 t4)) ∧ (¬ r5 = 1 → (∀ x6 : Int32, x6 = v3 + 1 → (q_X5_over_25 post n v1 v2 x6 t4))))
def q_X5_over (t : fcS) (a0 : Int32) (a1 : Int32) (post : Int32 → fcS → Prop) : Prop := ∀ t1 : fcS, t1 = fsi t 53 0 0 → (q_X5_isNumber t1 a0 a1 (fun (r3 : Int32) (t2 : fcS) => (¬ r3 = 0 → ((¬ a1 = 0 → (∃ n0, q_X5_over_25 post n0 a0 a1 1 t2)) ∧ (a1 = 0 → (post ((-2)) t2)))) ∧ (r3 = 0 → (post ((-1)) t2))))
set_option maxHeartbeats 4000000 in
set_option maxRecDepth 100000 in
theorem k_X5_over_25 {D : va_G} {adr : Nat → Nat} {cs : Nat → ClassId} {N : Nat} (hN : 67 ≤ N) {p : Program} {l : Launch} {e : Env} {s : State} {m : MethodId} {args : Array Value} {below : List Frame} {meth : Method} {c : Code} (C : fCx D adr cs N p s m args meth c cX5_over 4 (some .int) RX5 wm_X5_over) {post : Int32 → fcS → Prop} : ∀ (n : Nat) (v1 : Int32) (v2 : Int32) (v3 : Int32) (t : fcS) (H : Heap) (locs : List Loc) (ls : Array Slot), q_X5_over_25 post n v1 v2 v3 t → va_P D vwCl (fwl adr N (fG adr cs t)) H → va_S (faN adr N) s.heap H locs → lv_has ls 4 [(0, .ref (adr 53)), (1, .int v1), (2, .int v2), (3, .int v3)] → W p l e ({ frames := 3, cells := 0, slots := 0, locals := 75 } : Room) s m args below meth c H locs 0 0 (MQ below (fQi D adr cs N post) args s 0 0 (faN adr N)) (F0 m 25 ls []) := by
  have hx := C.1.1
  have hb := C.1.2.1
  intro n
  induction n with
  | zero => intro v1 v2 v3 t H locs ls h; exact False.elim h
  | succ n ih =>
    intro v1 v2 v3 t H locs ls h hP hS hl
    unfold q_X5_over_25 at h
    refine lv_aload_n hx hb dX5_over_25 rfl (lv_at hl 0 rfl) ?_
    refine lv_iload_n hx hb dX5_over_26 rfl (lv_at hl 1 rfl) ?_
    refine lv_iload_n hx hb dX5_over_27 rfl (lv_at hl 2 rfl) ?_
    refine lv_iload_n hx hb dX5_over_28 rfl (lv_at hl 3 rfl) ?_
    refine fr_ci (fr_runV (n := 3) (rest := []) C (c_X5_product l D adr cs hN t v1 v2 v3 _ h) hP hS (by omega) (fG_MO adr cs t) rfl (fgV mw_9_17 mw_9_18 mw_9_19 mw_1_5 mw_9_20) rfl rfl rfl (by decide +kernel) ⟨Nat.le_of_ble_eq_true rfl, Nat.le_of_ble_eq_true rfl⟩ rfl hl.1 rfl (Nat.le_of_ble_eq_true rfl) dX5_over_29) hS (fun r5 t4 H locs h hP hS => ?_)
    refine lv_iconst (v := 1) hx hb dX5_over_32 (by decide) ?_
    refine lv_icmp_eq (tgt := 42) hx hb dX5_over_33 (by decide) (fun c9 => ?_) (fun c9 => ?_)
    · replace h := h.1 c9
      refine lv_iload_n hx hb dX5_over_42 rfl (lv_at hl 3 rfl) ?_
      exact fr_iret C hP hS h dX5_over_43
    · replace h := h.2 c9
      obtain ⟨x6, ex6⟩ : ∃ y : Int32, y = v3 + 1 := ⟨_, rfl⟩
      replace h := h x6 ex6
      refine lv_iinc (v := x6) (lv' := [(3, .int x6), (0, .ref (adr 53)), (1, .int v1), (2, .int v2)]) hx hb dX5_over_36 hl (k := 3) rfl (by rw [ex6]; rfl) (by decide) rfl (fun ls hl => ?_)
      refine lv_goto (tgt := 25) hx hb dX5_over_39 (by decide) ?_
      exact ih v1 v2 x6 t4 _ _ _ h hP hS (lv_sub hl [1, 2, 3, 0] rfl)

set_option maxHeartbeats 4000000 in
set_option maxRecDepth 100000 in
theorem c_X5_over (l : Launch) (D : va_G) (adr : Nat → Nat) (cs : Nat → ClassId) {N : Nat} (hN : 67 ≤ N) (t : fcS) (a0 : Int32) (a1 : Int32) (post : Int32 → fcS → Prop) (h : q_X5_over t a0 a1 post) : Met l yX5_over wm_X5_over ({ frames := 3, cells := 0, slots := 0, locals := 75 } : Room) (fcPre D adr cs N t [.ref (adr 53), .int a0, .int a1]) (fQi D adr cs N post) 0 0 (faN adr N) := by
  refine f_enter (cc := cX5_over) (nL := 4) (ret := some .int) (lv := [(0, .ref (adr 53)), (1, .int a0), (2, .int a1)]) (own := RX5) (by decide) rfl (Nat.le_of_ble_eq_true rfl) rfl rfl ?_
  intro p e s m below meth c ls C hP hS hl
  have hx := C.1.1
  have hb := C.1.2.1
  unfold q_X5_over at h
  refine lv_aload_n hx hb dX5_over_0 rfl (lv_at hl 0 rfl) ?_
  refine lv_iconst (v := 0) hx hb dX5_over_1 (by decide) ?_
  refine fr_put C (fsi t 53 0 0) (j := 0) (ty := .int) hP hS (by omega) (fG_MO adr cs t) rfl (fun w h => List.mem_cons_of_mem _ (inl_X5 w h)) tyX5_ok nmX5 (by decide) rfl (List.mem_cons_of_mem _ mw_10_14) rfl (by decide +kernel) rfl rfl (Nat.le_of_ble_eq_true rfl) (fS_MO_0 adr cs t 0) (fG_fsi_ne adr cs t 53 0 0) dX5_over_2 (fun H locs hP hS => ?_)
  obtain ⟨t1, et1⟩ : ∃ y : fcS, y = fsi t 53 0 0 := ⟨_, rfl⟩
  rw [← et1] at hP
  replace h := h t1 et1
  refine lv_aload_n hx hb dX5_over_5 rfl (lv_at hl 0 rfl) ?_
  refine lv_iload_n hx hb dX5_over_6 rfl (lv_at hl 1 rfl) ?_
  refine lv_iload_n hx hb dX5_over_7 rfl (lv_at hl 2 rfl) ?_
  refine fr_ci (fr_runV (n := 2) (rest := []) C (c_X5_isNumber l D adr cs hN t1 a0 a1 _ h) hP hS (by omega) (fG_MO adr cs t1) rfl (fgV mw_12_3 mw_12_4 mw_12_5 mw_1_5 mw_12_6) rfl rfl rfl (by decide +kernel) ⟨Nat.le_of_ble_eq_true rfl, Nat.le_of_ble_eq_true rfl⟩ rfl hl.1 rfl (Nat.le_of_ble_eq_true rfl) dX5_over_8) hS (fun r3 t2 H locs h hP hS => ?_)
  refine lv_if_ne (tgt := 16) hx hb dX5_over_11 (by decide) (fun c9 => ?_) (fun c9 => ?_)
  · replace h := h.1 c9
    refine lv_iload_n hx hb dX5_over_16 rfl (lv_at hl 2 rfl) ?_
    refine lv_if_ne (tgt := 23) hx hb dX5_over_17 (by decide) (fun c9 => ?_) (fun c9 => ?_)
    · replace h := h.1 c9
      refine lv_iconst (v := 1) hx hb dX5_over_23 (by decide) ?_
      refine lv_istore_n (lv' := [(3, .int 1), (0, .ref (adr 53)), (1, .int a0), (2, .int a1)]) hx hb dX5_over_24 rfl hl (by decide) rfl (fun ls hl => ?_)
      obtain ⟨n9, h⟩ := h
      exact k_X5_over_25 hN C n9 a0 a1 1 t2 _ _ _ h hP hS (lv_sub hl [1, 2, 3, 0] rfl)
    · replace h := h.2 c9
      refine lv_bipush (v := (-2)) hx hb dX5_over_20 (by decide) ?_
      exact fr_iret C hP hS h dX5_over_22
  · replace h := h.2 c9
    refine lv_iconst (v := (-1)) hx hb dX5_over_14 (by decide) ?_
    exact fr_iret C hP hS h dX5_over_15

/-! X5.raise -/
abbrev wm_X5_raise : List Cond := Cond.code yX5_raise cX5_raise 4 (some .int) :: wsL_law
def q_X5_raise (t : fcS) (a0 : Int32) (a1 : Int32) (a2 : Int32) (post : Int32 → fcS → Prop) : Prop := ∀ t1 : fcS, t1 = fsi t 53 0 0 → (q_X5_isNumber t1 a0 a1 (fun (r3 : Int32) (t2 : fcS) => (r3 = 0 → (post ((-1)) t2)) ∧ (¬ r3 = 0 → ((a2 < 0 → (post ((-1)) t2)) ∧ (¬ a2 < 0 → (q_X5_power t2 a0 a1 a2 (fun (r5 : Int32) (t4 : fcS) => post r5 t4)))))))
set_option maxHeartbeats 4000000 in
set_option maxRecDepth 100000 in
theorem c_X5_raise (l : Launch) (D : va_G) (adr : Nat → Nat) (cs : Nat → ClassId) {N : Nat} (hN : 67 ≤ N) (t : fcS) (a0 : Int32) (a1 : Int32) (a2 : Int32) (post : Int32 → fcS → Prop) (h : q_X5_raise t a0 a1 a2 post) : Met l yX5_raise wm_X5_raise ({ frames := 4, cells := 0, slots := 0, locals := 101 } : Room) (fcPre D adr cs N t [.ref (adr 53), .int a0, .int a1, .int a2]) (fQi D adr cs N post) 0 0 (faN adr N) := by
  refine f_enter (cc := cX5_raise) (nL := 4) (ret := some .int) (lv := [(0, .ref (adr 53)), (1, .int a0), (2, .int a1), (3, .int a2)]) (own := RX5) (by decide) rfl (Nat.le_of_ble_eq_true rfl) rfl rfl ?_
  intro p e s m below meth c ls C hP hS hl
  have hx := C.1.1
  have hb := C.1.2.1
  unfold q_X5_raise at h
  refine lv_aload_n hx hb dX5_raise_0 rfl (lv_at hl 0 rfl) ?_
  refine lv_iconst (v := 0) hx hb dX5_raise_1 (by decide) ?_
  refine fr_put C (fsi t 53 0 0) (j := 0) (ty := .int) hP hS (by omega) (fG_MO adr cs t) rfl (fun w h => List.mem_cons_of_mem _ (inl_X5 w h)) tyX5_ok nmX5 (by decide) rfl (List.mem_cons_of_mem _ mw_10_14) rfl (by decide +kernel) rfl rfl (Nat.le_of_ble_eq_true rfl) (fS_MO_0 adr cs t 0) (fG_fsi_ne adr cs t 53 0 0) dX5_raise_2 (fun H locs hP hS => ?_)
  obtain ⟨t1, et1⟩ : ∃ y : fcS, y = fsi t 53 0 0 := ⟨_, rfl⟩
  rw [← et1] at hP
  replace h := h t1 et1
  refine lv_aload_n hx hb dX5_raise_5 rfl (lv_at hl 0 rfl) ?_
  refine lv_iload_n hx hb dX5_raise_6 rfl (lv_at hl 1 rfl) ?_
  refine lv_iload_n hx hb dX5_raise_7 rfl (lv_at hl 2 rfl) ?_
  refine fr_ci (fr_runV (n := 2) (rest := []) C (c_X5_isNumber l D adr cs hN t1 a0 a1 _ h) hP hS (by omega) (fG_MO adr cs t1) rfl (fgV mw_12_3 mw_12_4 mw_12_5 mw_1_5 mw_12_6) rfl rfl rfl (by decide +kernel) ⟨Nat.le_of_ble_eq_true rfl, Nat.le_of_ble_eq_true rfl⟩ rfl hl.1 rfl (Nat.le_of_ble_eq_true rfl) dX5_raise_8) hS (fun r3 t2 H locs h hP hS => ?_)
  refine lv_if_eq (tgt := 28) hx hb dX5_raise_11 (by decide) (fun c9 => ?_) (fun c9 => ?_)
  · replace h := h.1 c9
    refine lv_iconst (v := (-1)) hx hb dX5_raise_28 (by decide) ?_
    exact fr_iret C hP hS h dX5_raise_29
  · replace h := h.2 c9
    refine lv_iload_n hx hb dX5_raise_14 rfl (lv_at hl 3 rfl) ?_
    refine lv_if_lt (tgt := 28) hx hb dX5_raise_15 (by decide) (fun c9 => ?_) (fun c9 => ?_)
    · replace h := h.1 c9
      refine lv_iconst (v := (-1)) hx hb dX5_raise_28 (by decide) ?_
      exact fr_iret C hP hS h dX5_raise_29
    · replace h := h.2 c9
      refine lv_aload_n hx hb dX5_raise_18 rfl (lv_at hl 0 rfl) ?_
      refine lv_iload_n hx hb dX5_raise_19 rfl (lv_at hl 1 rfl) ?_
      refine lv_iload_n hx hb dX5_raise_20 rfl (lv_at hl 2 rfl) ?_
      refine lv_iload_n hx hb dX5_raise_21 rfl (lv_at hl 3 rfl) ?_
      refine fr_ci (fr_runV (n := 3) (rest := []) C (c_X5_power l D adr cs hN t2 a0 a1 a2 _ h) hP hS (by omega) (fG_MO adr cs t2) rfl (fgV mw_13_19 mw_13_20 mw_13_21 mw_1_5 mw_13_22) rfl rfl rfl (by decide +kernel) ⟨Nat.le_of_ble_eq_true rfl, Nat.le_of_ble_eq_true rfl⟩ rfl hl.1 rfl (Nat.le_of_ble_eq_true rfl) dX5_raise_22) hS (fun r5 t4 H locs h hP hS => ?_)
      refine lv_goto (tgt := 29) hx hb dX5_raise_25 (by decide) ?_
      exact fr_iret C hP hS h dX5_raise_29

/-! X5.sign -/
abbrev wm_X5_sign : List Cond := Cond.code yX5_sign cX5_sign 3 (some .int) :: wsL_law
def q_X5_sign (t : fcS) (a0 : Int32) (a1 : Int32) (post : Int32 → fcS → Prop) : Prop := ∀ t1 : fcS, t1 = fsi t 53 0 0 → (q_X5_isNumber t1 a0 a1 (fun (r3 : Int32) (t2 : fcS) => (¬ r3 = 0 → (q_X5_needSigns t2 a0 (fun (t4 : fcS) => (vp_in a1 344) ∧ (post ((fga t4 61 (Int32.toNatClampNeg a1))) t4)))) ∧ (r3 = 0 → (post ((-1000000000)) t2))))
set_option maxHeartbeats 4000000 in
set_option maxRecDepth 100000 in
theorem c_X5_sign (l : Launch) (D : va_G) (adr : Nat → Nat) (cs : Nat → ClassId) {N : Nat} (hN : 67 ≤ N) (t : fcS) (a0 : Int32) (a1 : Int32) (post : Int32 → fcS → Prop) (h : q_X5_sign t a0 a1 post) : Met l yX5_sign wm_X5_sign ({ frames := 4, cells := 0, slots := 0, locals := 97 } : Room) (fcPre D adr cs N t [.ref (adr 53), .int a0, .int a1]) (fQi D adr cs N post) 0 0 (faN adr N) := by
  refine f_enter (cc := cX5_sign) (nL := 3) (ret := some .int) (lv := [(0, .ref (adr 53)), (1, .int a0), (2, .int a1)]) (own := RX5) (by decide) rfl (Nat.le_of_ble_eq_true rfl) rfl rfl ?_
  intro p e s m below meth c ls C hP hS hl
  have hx := C.1.1
  have hb := C.1.2.1
  unfold q_X5_sign at h
  refine lv_aload_n hx hb dX5_sign_0 rfl (lv_at hl 0 rfl) ?_
  refine lv_iconst (v := 0) hx hb dX5_sign_1 (by decide) ?_
  refine fr_put C (fsi t 53 0 0) (j := 0) (ty := .int) hP hS (by omega) (fG_MO adr cs t) rfl (fun w h => List.mem_cons_of_mem _ (inl_X5 w h)) tyX5_ok nmX5 (by decide) rfl (List.mem_cons_of_mem _ mw_10_14) rfl (by decide +kernel) rfl rfl (Nat.le_of_ble_eq_true rfl) (fS_MO_0 adr cs t 0) (fG_fsi_ne adr cs t 53 0 0) dX5_sign_2 (fun H locs hP hS => ?_)
  obtain ⟨t1, et1⟩ : ∃ y : fcS, y = fsi t 53 0 0 := ⟨_, rfl⟩
  rw [← et1] at hP
  replace h := h t1 et1
  refine lv_aload_n hx hb dX5_sign_5 rfl (lv_at hl 0 rfl) ?_
  refine lv_iload_n hx hb dX5_sign_6 rfl (lv_at hl 1 rfl) ?_
  refine lv_iload_n hx hb dX5_sign_7 rfl (lv_at hl 2 rfl) ?_
  refine fr_ci (fr_runV (n := 2) (rest := []) C (c_X5_isNumber l D adr cs hN t1 a0 a1 _ h) hP hS (by omega) (fG_MO adr cs t1) rfl (fgV mw_12_3 mw_12_4 mw_12_5 mw_1_5 mw_12_6) rfl rfl rfl (by decide +kernel) ⟨Nat.le_of_ble_eq_true rfl, Nat.le_of_ble_eq_true rfl⟩ rfl hl.1 rfl (Nat.le_of_ble_eq_true rfl) dX5_sign_8) hS (fun r3 t2 H locs h hP hS => ?_)
  refine lv_if_ne (tgt := 17) hx hb dX5_sign_11 (by decide) (fun c9 => ?_) (fun c9 => ?_)
  · replace h := h.1 c9
    refine lv_aload_n hx hb dX5_sign_17 rfl (lv_at hl 0 rfl) ?_
    refine lv_iload_n hx hb dX5_sign_18 rfl (lv_at hl 1 rfl) ?_
    refine fr_cv (fr_runV (n := 1) (rest := []) C (c_X5_needSigns l D adr cs hN t2 a0 _ h) hP hS (by omega) (fG_MO adr cs t2) rfl (fgV mw_9_13 mw_9_14 mw_9_15 mw_1_5 mw_9_16) rfl rfl rfl (by decide +kernel) ⟨Nat.le_of_ble_eq_true rfl, Nat.le_of_ble_eq_true rfl⟩ rfl hl.1 rfl (Nat.le_of_ble_eq_true rfl) dX5_sign_19) hS (fun t4 H locs h hP hS => ?_)
    refine lv_aload_n hx hb dX5_sign_22 rfl (lv_at hl 0 rfl) ?_
    refine fr_get (j := 14) C hP (by omega) (fG_MO adr cs t4) rfl (fun w h => List.mem_cons_of_mem _ (inl_X5 w h)) (by decide) rfl (List.mem_cons_of_mem _ mw_7_15) rfl dX5_sign_23 ?_
    refine lv_iload_n hx hb dX5_sign_26 rfl (lv_at hl 2 rfl) ?_
    refine fr_iald C hP (by omega) (fG_61 adr cs t4) h.1 dX5_sign_27 ?_
    replace h := h.2
    exact fr_iret C hP hS h dX5_sign_28
  · replace h := h.2 c9
    refine lv_ldc hx hb (v := (-1000000000)) C.1.2.2.2.1 (C.1.2.2.2.2 _ (List.mem_cons_of_mem _ mw_14_8)) dX5_sign_14 ?_
    exact fr_iret C hP hS h dX5_sign_16

/-! X5.turns -/
abbrev wm_X5_turns : List Cond := Cond.code yX5_turns cX5_turns 5 (some .int) :: wsL_law
def q_X5_turns_28 (post : Int32 → fcS → Prop) : Nat → Int32 → Int32 → Int32 → Int32 → fcS → Prop
  | 0, _, _, _, _, _ => False
  | n + 1, v1, v2, v3, v4, t => (v4 = 1 → (post v3 t)) ∧ (¬ v4 = 1 → (q_X5_product t v1 v4 v2 (fun (r5 : Int32) (t4 : fcS) => ∀ x6 : Int32, x6 = v3 + 1 → (q_X5_turns_28 post n v1 v2 x6 r5 t4))))
def q_X5_turns (t : fcS) (a0 : Int32) (a1 : Int32) (post : Int32 → fcS → Prop) : Prop := ∀ t1 : fcS, t1 = fsi t 53 0 0 → (q_X5_isNumber t1 a0 a1 (fun (r3 : Int32) (t2 : fcS) => (¬ r3 = 0 → ((¬ a1 = 0 → (∃ n0, q_X5_turns_28 post n0 a0 a1 1 a1 t2)) ∧ (a1 = 0 → (post ((-2)) t2)))) ∧ (r3 = 0 → (post ((-1)) t2))))
set_option maxHeartbeats 4000000 in
set_option maxRecDepth 100000 in
theorem k_X5_turns_28 {D : va_G} {adr : Nat → Nat} {cs : Nat → ClassId} {N : Nat} (hN : 67 ≤ N) {p : Program} {l : Launch} {e : Env} {s : State} {m : MethodId} {args : Array Value} {below : List Frame} {meth : Method} {c : Code} (C : fCx D adr cs N p s m args meth c cX5_turns 5 (some .int) RX5 wm_X5_turns) {post : Int32 → fcS → Prop} : ∀ (n : Nat) (v1 : Int32) (v2 : Int32) (v3 : Int32) (v4 : Int32) (t : fcS) (H : Heap) (locs : List Loc) (ls : Array Slot), q_X5_turns_28 post n v1 v2 v3 v4 t → va_P D vwCl (fwl adr N (fG adr cs t)) H → va_S (faN adr N) s.heap H locs → lv_has ls 5 [(0, .ref (adr 53)), (1, .int v1), (2, .int v2), (3, .int v3), (4, .int v4)] → W p l e ({ frames := 3, cells := 0, slots := 0, locals := 75 } : Room) s m args below meth c H locs 0 0 (MQ below (fQi D adr cs N post) args s 0 0 (faN adr N)) (F0 m 28 ls []) := by
  have hx := C.1.1
  have hb := C.1.2.1
  intro n
  induction n with
  | zero => intro v1 v2 v3 v4 t H locs ls h; exact False.elim h
  | succ n ih =>
    intro v1 v2 v3 v4 t H locs ls h hP hS hl
    unfold q_X5_turns_28 at h
    refine lv_iload hx hb dX5_turns_28 (lv_at hl 4 rfl) ?_
    refine lv_iconst (v := 1) hx hb dX5_turns_30 (by decide) ?_
    refine lv_icmp_eq (tgt := 50) hx hb dX5_turns_31 (by decide) (fun c9 => ?_) (fun c9 => ?_)
    · replace h := h.1 c9
      refine lv_iload_n hx hb dX5_turns_50 rfl (lv_at hl 3 rfl) ?_
      exact fr_iret C hP hS h dX5_turns_51
    · replace h := h.2 c9
      refine lv_aload_n hx hb dX5_turns_34 rfl (lv_at hl 0 rfl) ?_
      refine lv_iload_n hx hb dX5_turns_35 rfl (lv_at hl 1 rfl) ?_
      refine lv_iload hx hb dX5_turns_36 (lv_at hl 4 rfl) ?_
      refine lv_iload_n hx hb dX5_turns_38 rfl (lv_at hl 2 rfl) ?_
      refine fr_ci (fr_runV (n := 3) (rest := []) C (c_X5_product l D adr cs hN t v1 v4 v2 _ h) hP hS (by omega) (fG_MO adr cs t) rfl (fgV mw_9_17 mw_9_18 mw_9_19 mw_1_5 mw_9_20) rfl rfl rfl (by decide +kernel) ⟨Nat.le_of_ble_eq_true rfl, Nat.le_of_ble_eq_true rfl⟩ rfl hl.1 rfl (Nat.le_of_ble_eq_true rfl) dX5_turns_39) hS (fun r5 t4 H locs h hP hS => ?_)
      refine lv_istore (lv' := [(4, .int r5), (0, .ref (adr 53)), (1, .int v1), (2, .int v2), (3, .int v3)]) hx hb dX5_turns_42 hl (by decide) rfl (fun ls hl => ?_)
      obtain ⟨x6, ex6⟩ : ∃ y : Int32, y = v3 + 1 := ⟨_, rfl⟩
      replace h := h x6 ex6
      refine lv_iinc (v := x6) (lv' := [(3, .int x6), (4, .int r5), (0, .ref (adr 53)), (1, .int v1), (2, .int v2)]) hx hb dX5_turns_44 hl (k := 4) rfl (by rw [ex6]; rfl) (by decide) rfl (fun ls hl => ?_)
      refine lv_goto (tgt := 28) hx hb dX5_turns_47 (by decide) ?_
      exact ih v1 v2 x6 r5 t4 _ _ _ h hP hS (lv_sub hl [2, 3, 4, 0, 1] rfl)

set_option maxHeartbeats 4000000 in
set_option maxRecDepth 100000 in
theorem c_X5_turns (l : Launch) (D : va_G) (adr : Nat → Nat) (cs : Nat → ClassId) {N : Nat} (hN : 67 ≤ N) (t : fcS) (a0 : Int32) (a1 : Int32) (post : Int32 → fcS → Prop) (h : q_X5_turns t a0 a1 post) : Met l yX5_turns wm_X5_turns ({ frames := 3, cells := 0, slots := 0, locals := 75 } : Room) (fcPre D adr cs N t [.ref (adr 53), .int a0, .int a1]) (fQi D adr cs N post) 0 0 (faN adr N) := by
  refine f_enter (cc := cX5_turns) (nL := 5) (ret := some .int) (lv := [(0, .ref (adr 53)), (1, .int a0), (2, .int a1)]) (own := RX5) (by decide) rfl (Nat.le_of_ble_eq_true rfl) rfl rfl ?_
  intro p e s m below meth c ls C hP hS hl
  have hx := C.1.1
  have hb := C.1.2.1
  unfold q_X5_turns at h
  refine lv_aload_n hx hb dX5_turns_0 rfl (lv_at hl 0 rfl) ?_
  refine lv_iconst (v := 0) hx hb dX5_turns_1 (by decide) ?_
  refine fr_put C (fsi t 53 0 0) (j := 0) (ty := .int) hP hS (by omega) (fG_MO adr cs t) rfl (fun w h => List.mem_cons_of_mem _ (inl_X5 w h)) tyX5_ok nmX5 (by decide) rfl (List.mem_cons_of_mem _ mw_10_14) rfl (by decide +kernel) rfl rfl (Nat.le_of_ble_eq_true rfl) (fS_MO_0 adr cs t 0) (fG_fsi_ne adr cs t 53 0 0) dX5_turns_2 (fun H locs hP hS => ?_)
  obtain ⟨t1, et1⟩ : ∃ y : fcS, y = fsi t 53 0 0 := ⟨_, rfl⟩
  rw [← et1] at hP
  replace h := h t1 et1
  refine lv_aload_n hx hb dX5_turns_5 rfl (lv_at hl 0 rfl) ?_
  refine lv_iload_n hx hb dX5_turns_6 rfl (lv_at hl 1 rfl) ?_
  refine lv_iload_n hx hb dX5_turns_7 rfl (lv_at hl 2 rfl) ?_
  refine fr_ci (fr_runV (n := 2) (rest := []) C (c_X5_isNumber l D adr cs hN t1 a0 a1 _ h) hP hS (by omega) (fG_MO adr cs t1) rfl (fgV mw_12_3 mw_12_4 mw_12_5 mw_1_5 mw_12_6) rfl rfl rfl (by decide +kernel) ⟨Nat.le_of_ble_eq_true rfl, Nat.le_of_ble_eq_true rfl⟩ rfl hl.1 rfl (Nat.le_of_ble_eq_true rfl) dX5_turns_8) hS (fun r3 t2 H locs h hP hS => ?_)
  refine lv_if_ne (tgt := 16) hx hb dX5_turns_11 (by decide) (fun c9 => ?_) (fun c9 => ?_)
  · replace h := h.1 c9
    refine lv_iload_n hx hb dX5_turns_16 rfl (lv_at hl 2 rfl) ?_
    refine lv_if_ne (tgt := 23) hx hb dX5_turns_17 (by decide) (fun c9 => ?_) (fun c9 => ?_)
    · replace h := h.1 c9
      refine lv_iconst (v := 1) hx hb dX5_turns_23 (by decide) ?_
      refine lv_istore_n (lv' := [(3, .int 1), (0, .ref (adr 53)), (1, .int a0), (2, .int a1)]) hx hb dX5_turns_24 rfl hl (by decide) rfl (fun ls hl => ?_)
      refine lv_iload_n hx hb dX5_turns_25 rfl (lv_at hl 3 rfl) ?_
      refine lv_istore (lv' := [(4, .int a1), (3, .int 1), (0, .ref (adr 53)), (1, .int a0), (2, .int a1)]) hx hb dX5_turns_26 hl (by decide) rfl (fun ls hl => ?_)
      obtain ⟨n9, h⟩ := h
      exact k_X5_turns_28 hN C n9 a0 a1 1 a1 t2 _ _ _ h hP hS (lv_sub hl [2, 3, 4, 1, 0] rfl)
    · replace h := h.2 c9
      refine lv_bipush (v := (-2)) hx hb dX5_turns_20 (by decide) ?_
      exact fr_iret C hP hS h dX5_turns_22
  · replace h := h.2 c9
    refine lv_iconst (v := (-1)) hx hb dX5_turns_14 (by decide) ?_
    exact fr_iret C hP hS h dX5_turns_15

/-! X5.trace -/
abbrev wm_X5_trace : List Cond := Cond.code yX5_trace cX5_trace 6 (some .int) :: wsL_law
def q_X5_trace_24 (post : Int32 → fcS → Prop) : Nat → Int32 → Int32 → Int32 → Int32 → fcS → Prop
  | 0, _, _, _, _, _ => False
  | n + 1, v1, v3, v4, v5, t => (v1 ≤ v5 → (post v3 t)) ∧ (¬ v1 ≤ v5 → (q_X5_sum t v3 v4 (fun (r5 : Int32) (t4 : fcS) => q_X5_power t4 v1 v4 ((fgi t4 53 1)) (fun (r7 : Int32) (t6 : fcS) => ∀ x8 : Int32, x8 = v5 + 1 → (q_X5_trace_24 post n v1 r5 r7 x8 t6)))))
def q_X5_trace (t : fcS) (a0 : Int32) (a1 : Int32) (post : Int32 → fcS → Prop) : Prop := ∀ t1 : fcS, t1 = fsi t 53 0 0 → (q_X5_isNumber t1 a0 a1 (fun (r3 : Int32) (t2 : fcS) => (¬ r3 = 0 → (∃ n0, q_X5_trace_24 post n0 a0 0 a1 0 t2)) ∧ (r3 = 0 → (post ((-1)) t2))))
set_option maxHeartbeats 4000000 in
set_option maxRecDepth 100000 in
theorem k_X5_trace_24 {D : va_G} {adr : Nat → Nat} {cs : Nat → ClassId} {N : Nat} (hN : 67 ≤ N) {p : Program} {l : Launch} {e : Env} {s : State} {m : MethodId} {args : Array Value} {below : List Frame} {meth : Method} {c : Code} (C : fCx D adr cs N p s m args meth c cX5_trace 6 (some .int) RX5 wm_X5_trace) {post : Int32 → fcS → Prop} : ∀ (n : Nat) (v1 : Int32) (v3 : Int32) (v4 : Int32) (v5 : Int32) (t : fcS) (H : Heap) (locs : List Loc) (ls : Array Slot), q_X5_trace_24 post n v1 v3 v4 v5 t → va_P D vwCl (fwl adr N (fG adr cs t)) H → va_S (faN adr N) s.heap H locs → lv_has ls 6 [(0, .ref (adr 53)), (1, .int v1), (3, .int v3), (4, .int v4), (5, .int v5)] → W p l e ({ frames := 4, cells := 0, slots := 0, locals := 101 } : Room) s m args below meth c H locs 0 0 (MQ below (fQi D adr cs N post) args s 0 0 (faN adr N)) (F0 m 24 ls []) := by
  have hx := C.1.1
  have hb := C.1.2.1
  intro n
  induction n with
  | zero => intro v1 v3 v4 v5 t H locs ls h; exact False.elim h
  | succ n ih =>
    intro v1 v3 v4 v5 t H locs ls h hP hS hl
    unfold q_X5_trace_24 at h
    refine lv_iload hx hb dX5_trace_24 (lv_at hl 4 rfl) ?_
    refine lv_iload_n hx hb dX5_trace_26 rfl (lv_at hl 1 rfl) ?_
    refine lv_icmp_ge (tgt := 57) hx hb dX5_trace_27 (by decide) (fun c9 => ?_) (fun c9 => ?_)
    · replace h := h.1 c9
      refine lv_iload_n hx hb dX5_trace_57 rfl (lv_at hl 2 rfl) ?_
      exact fr_iret C hP hS h dX5_trace_58
    · replace h := h.2 c9
      refine lv_aload_n hx hb dX5_trace_30 rfl (lv_at hl 0 rfl) ?_
      refine lv_iload_n hx hb dX5_trace_31 rfl (lv_at hl 2 rfl) ?_
      refine lv_iload hx hb dX5_trace_32 (lv_at hl 3 rfl) ?_
      refine fr_ci (fr_runV (n := 2) (rest := []) C (c_X5_sum l D adr cs hN t v3 v4 _ h) hP hS (by omega) (fG_MO adr cs t) rfl (fgV mw_12_7 mw_12_8 mw_12_9 mw_1_5 mw_12_10) rfl rfl rfl (by decide +kernel) ⟨Nat.le_of_ble_eq_true rfl, Nat.le_of_ble_eq_true rfl⟩ rfl hl.1 rfl (Nat.le_of_ble_eq_true rfl) dX5_trace_34) hS (fun r5 t4 H locs h hP hS => ?_)
      refine lv_istore_n (lv' := [(3, .int r5), (0, .ref (adr 53)), (1, .int v1), (4, .int v4), (5, .int v5)]) hx hb dX5_trace_37 rfl hl (by decide) rfl (fun ls hl => ?_)
      refine lv_aload_n hx hb dX5_trace_38 rfl (lv_at hl 1 rfl) ?_
      refine lv_iload_n hx hb dX5_trace_39 rfl (lv_at hl 2 rfl) ?_
      refine lv_iload hx hb dX5_trace_40 (lv_at hl 3 rfl) ?_
      refine lv_aload_n hx hb dX5_trace_42 rfl (lv_at hl 1 rfl) ?_
      refine fr_get (j := 1) C hP (by omega) (fG_MO adr cs t4) rfl (fun w h => List.mem_cons_of_mem _ (inl_X5 w h)) (by decide) rfl (List.mem_cons_of_mem _ mw_7_5) rfl dX5_trace_43 ?_
      refine fr_ci (fr_runV (n := 3) (rest := []) C (c_X5_power l D adr cs hN t4 v1 v4 ((fgi t4 53 1)) _ h) hP hS (by omega) (fG_MO adr cs t4) rfl (fgV mw_13_19 mw_13_20 mw_13_21 mw_1_5 mw_13_22) rfl rfl rfl (by decide +kernel) ⟨Nat.le_of_ble_eq_true rfl, Nat.le_of_ble_eq_true rfl⟩ rfl hl.1 rfl (Nat.le_of_ble_eq_true rfl) dX5_trace_46) hS (fun r7 t6 H locs h hP hS => ?_)
      refine lv_istore (lv' := [(4, .int r7), (3, .int r5), (0, .ref (adr 53)), (1, .int v1), (5, .int v5)]) hx hb dX5_trace_49 hl (by decide) rfl (fun ls hl => ?_)
      obtain ⟨x8, ex8⟩ : ∃ y : Int32, y = v5 + 1 := ⟨_, rfl⟩
      replace h := h x8 ex8
      refine lv_iinc (v := x8) (lv' := [(5, .int x8), (4, .int r7), (3, .int r5), (0, .ref (adr 53)), (1, .int v1)]) hx hb dX5_trace_51 hl (k := 4) rfl (by rw [ex8]; rfl) (by decide) rfl (fun ls hl => ?_)
      refine lv_goto (tgt := 24) hx hb dX5_trace_54 (by decide) ?_
      exact ih v1 r5 r7 x8 t6 _ _ _ h hP hS (lv_sub hl [3, 4, 2, 1, 0] rfl)

set_option maxHeartbeats 4000000 in
set_option maxRecDepth 100000 in
theorem c_X5_trace (l : Launch) (D : va_G) (adr : Nat → Nat) (cs : Nat → ClassId) {N : Nat} (hN : 67 ≤ N) (t : fcS) (a0 : Int32) (a1 : Int32) (post : Int32 → fcS → Prop) (h : q_X5_trace t a0 a1 post) : Met l yX5_trace wm_X5_trace ({ frames := 4, cells := 0, slots := 0, locals := 101 } : Room) (fcPre D adr cs N t [.ref (adr 53), .int a0, .int a1]) (fQi D adr cs N post) 0 0 (faN adr N) := by
  refine f_enter (cc := cX5_trace) (nL := 6) (ret := some .int) (lv := [(0, .ref (adr 53)), (1, .int a0), (2, .int a1)]) (own := RX5) (by decide) rfl (Nat.le_of_ble_eq_true rfl) rfl rfl ?_
  intro p e s m below meth c ls C hP hS hl
  have hx := C.1.1
  have hb := C.1.2.1
  unfold q_X5_trace at h
  refine lv_aload_n hx hb dX5_trace_0 rfl (lv_at hl 0 rfl) ?_
  refine lv_iconst (v := 0) hx hb dX5_trace_1 (by decide) ?_
  refine fr_put C (fsi t 53 0 0) (j := 0) (ty := .int) hP hS (by omega) (fG_MO adr cs t) rfl (fun w h => List.mem_cons_of_mem _ (inl_X5 w h)) tyX5_ok nmX5 (by decide) rfl (List.mem_cons_of_mem _ mw_10_14) rfl (by decide +kernel) rfl rfl (Nat.le_of_ble_eq_true rfl) (fS_MO_0 adr cs t 0) (fG_fsi_ne adr cs t 53 0 0) dX5_trace_2 (fun H locs hP hS => ?_)
  obtain ⟨t1, et1⟩ : ∃ y : fcS, y = fsi t 53 0 0 := ⟨_, rfl⟩
  rw [← et1] at hP
  replace h := h t1 et1
  refine lv_aload_n hx hb dX5_trace_5 rfl (lv_at hl 0 rfl) ?_
  refine lv_iload_n hx hb dX5_trace_6 rfl (lv_at hl 1 rfl) ?_
  refine lv_iload_n hx hb dX5_trace_7 rfl (lv_at hl 2 rfl) ?_
  refine fr_ci (fr_runV (n := 2) (rest := []) C (c_X5_isNumber l D adr cs hN t1 a0 a1 _ h) hP hS (by omega) (fG_MO adr cs t1) rfl (fgV mw_12_3 mw_12_4 mw_12_5 mw_1_5 mw_12_6) rfl rfl rfl (by decide +kernel) ⟨Nat.le_of_ble_eq_true rfl, Nat.le_of_ble_eq_true rfl⟩ rfl hl.1 rfl (Nat.le_of_ble_eq_true rfl) dX5_trace_8) hS (fun r3 t2 H locs h hP hS => ?_)
  refine lv_if_ne (tgt := 16) hx hb dX5_trace_11 (by decide) (fun c9 => ?_) (fun c9 => ?_)
  · replace h := h.1 c9
    refine lv_iconst (v := 0) hx hb dX5_trace_16 (by decide) ?_
    refine lv_istore_n (lv' := [(3, .int 0), (0, .ref (adr 53)), (1, .int a0), (2, .int a1)]) hx hb dX5_trace_17 rfl hl (by decide) rfl (fun ls hl => ?_)
    refine lv_iload_n hx hb dX5_trace_18 rfl (lv_at hl 3 rfl) ?_
    refine lv_istore (lv' := [(4, .int a1), (3, .int 0), (0, .ref (adr 53)), (1, .int a0), (2, .int a1)]) hx hb dX5_trace_19 hl (by decide) rfl (fun ls hl => ?_)
    refine lv_iconst (v := 0) hx hb dX5_trace_21 (by decide) ?_
    refine lv_istore (lv' := [(5, .int 0), (4, .int a1), (3, .int 0), (0, .ref (adr 53)), (1, .int a0), (2, .int a1)]) hx hb dX5_trace_22 hl (by decide) rfl (fun ls hl => ?_)
    obtain ⟨n9, h⟩ := h
    exact k_X5_trace_24 hN C n9 a0 0 a1 0 t2 _ _ _ h hP hS (lv_sub hl [3, 4, 2, 1, 0] rfl)
  · replace h := h.2 c9
    refine lv_iconst (v := (-1)) hx hb dX5_trace_14 (by decide) ?_
    exact fr_iret C hP hS h dX5_trace_15

/-! X5.forms -/
abbrev wm_X5_forms : List Cond := Cond.code yX5_forms cX5_forms 9 (some .int) :: wsL_law
def q_X5_forms_113 (post : Int32 → fcS → Prop) : Nat → Int32 → Int32 → Int32 → Int32 → Int32 → fcS → Prop
  | 0, _, _, _, _, _, _ => False
  | n + 1, v1, v2, v4, v5, v6, t => (vp_in v1 6) ∧ (((fga t 54 (Int32.toNatClampNeg v1)) ≤ v6 → (post v5 t)) ∧ (¬ (fga t 54 (Int32.toNatClampNeg v1)) ≤ v6 → (q_X5_product t v1 v6 v6 (fun (r9 : Int32) (t8 : fcS) => q_X5_product t8 v1 v2 r9 (fun (r11 : Int32) (t10 : fcS) => q_X5_product t10 v1 (((fgi t10 53 1) - 1)) r11 (fun (r13 : Int32) (t12 : fcS) => q_X5_sum t12 v4 r13 (fun (r15 : Int32) (t14 : fcS) => (vp_in r15 344) ∧ (∀ x16 : Int32, x16 = (v5 + (fga t14 64 (Int32.toNatClampNeg r15))) → (∀ x17 : Int32, x17 = v6 + 1 → (q_X5_forms_113 post n v1 v2 v4 x16 x17 t14))))))))))
def q_X5_forms_66 (post : Int32 → fcS → Prop) : Nat → Int32 → Int32 → Int32 → Int32 → Int32 → fcS → Prop
  | 0, _, _, _, _, _, _ => False
  | n + 1, v1, v2, v3, v4, v5, t => (vp_in v1 6) ∧ (((fga t 54 (Int32.toNatClampNeg v1)) ≤ v5 → (∃ n0, q_X5_forms_113 post n0 v1 v2 v4 0 0 t)) ∧ (¬ (fga t 54 (Int32.toNatClampNeg v1)) ≤ v5 → (q_X5_product t v1 v5 v5 (fun (r19 : Int32) (t18 : fcS) => q_X5_product t18 v1 v3 r19 (fun (r21 : Int32) (t20 : fcS) => (vp_in r21 344) ∧ ((vp_in r21 344) ∧ (∀ t22 : fcS, t22 = fsa t20 64 (Int32.toNatClampNeg r21) (((fga t20 64 (Int32.toNatClampNeg r21)) + 1)) → (∀ x23 : Int32, x23 = v5 + 1 → (q_X5_forms_66 post n v1 v2 v3 v4 x23 t22)))))))))
def q_X5_forms_38 (post : Int32 → fcS → Prop) : Nat → Int32 → Int32 → Int32 → Int32 → Int32 → fcS → Prop
  | 0, _, _, _, _, _, _ => False
  | n + 1, v1, v2, v3, v4, v5, t => (vp_in v1 6) ∧ (((fga t 54 (Int32.toNatClampNeg v1)) ≤ v5 → (∃ n0, q_X5_forms_66 post n0 v1 v2 v3 v4 0 t)) ∧ (¬ (fga t 54 (Int32.toNatClampNeg v1)) ≤ v5 → ((vp_in v5 344) ∧ (∀ t24 : fcS, t24 = fsa t 64 (Int32.toNatClampNeg v5) 0 → (∀ x25 : Int32, x25 = v5 + 1 → (q_X5_forms_38 post n v1 v2 v3 v4 x25 t24))))))
def q_X5_forms (t : fcS) (a0 : Int32) (a1 : Int32) (a2 : Int32) (a3 : Int32) (post : Int32 → fcS → Prop) : Prop := ∀ t1 : fcS, t1 = fsi t 53 0 0 → (q_X5_isNumber t1 a0 a1 (fun (r3 : Int32) (t2 : fcS) => (r3 = 0 → (post ((-1)) t2)) ∧ (¬ r3 = 0 → (q_X5_isNumber t2 a0 a2 (fun (r5 : Int32) (t4 : fcS) => (r5 = 0 → (post ((-1)) t4)) ∧ (¬ r5 = 0 → (q_X5_isNumber t4 a0 a3 (fun (r7 : Int32) (t6 : fcS) => (¬ r7 = 0 → (∃ n0, q_X5_forms_38 post n0 a0 a1 a2 a3 0 t6)) ∧ (r7 = 0 → (post ((-1)) t6))))))))))
set_option maxHeartbeats 4000000 in
set_option maxRecDepth 100000 in
theorem k_X5_forms_113 {D : va_G} {adr : Nat → Nat} {cs : Nat → ClassId} {N : Nat} (hN : 67 ≤ N) {p : Program} {l : Launch} {e : Env} {s : State} {m : MethodId} {args : Array Value} {below : List Frame} {meth : Method} {c : Code} (C : fCx D adr cs N p s m args meth c cX5_forms 9 (some .int) RX5 wm_X5_forms) {post : Int32 → fcS → Prop} : ∀ (n : Nat) (v1 : Int32) (v2 : Int32) (v4 : Int32) (v5 : Int32) (v6 : Int32) (t : fcS) (H : Heap) (locs : List Loc) (ls : Array Slot), q_X5_forms_113 post n v1 v2 v4 v5 v6 t → va_P D vwCl (fwl adr N (fG adr cs t)) H → va_S (faN adr N) s.heap H locs → lv_has ls 9 [(0, .ref (adr 53)), (1, .int v1), (2, .int v2), (4, .int v4), (5, .int v5), (6, .int v6)] → W p l e ({ frames := 3, cells := 0, slots := 0, locals := 75 } : Room) s m args below meth c H locs 0 0 (MQ below (fQi D adr cs N post) args s 0 0 (faN adr N)) (F0 m 113 ls []) := by
  have hx := C.1.1
  have hb := C.1.2.1
  intro n
  induction n with
  | zero => intro v1 v2 v4 v5 v6 t H locs ls h; exact False.elim h
  | succ n ih =>
    intro v1 v2 v4 v5 v6 t H locs ls h hP hS hl
    unfold q_X5_forms_113 at h
    refine lv_iload hx hb dX5_forms_113 (lv_at hl 5 rfl) ?_
    refine lv_aload_n hx hb dX5_forms_115 rfl (lv_at hl 0 rfl) ?_
    refine fr_get (j := 3) C hP (by omega) (fG_MO adr cs t) rfl (fun w h => List.mem_cons_of_mem _ (inl_X5 w h)) (by decide) rfl (List.mem_cons_of_mem _ mw_7_7) rfl dX5_forms_116 ?_
    refine lv_iload_n hx hb dX5_forms_119 rfl (lv_at hl 1 rfl) ?_
    refine fr_iald C hP (by omega) (fG_54 adr cs t) h.1 dX5_forms_120 ?_
    replace h := h.2
    refine lv_icmp_ge (tgt := 180) hx hb dX5_forms_121 (by decide) (fun c9 => ?_) (fun c9 => ?_)
    · replace h := h.1 c9
      refine lv_iload hx hb dX5_forms_180 (lv_at hl 4 rfl) ?_
      exact fr_iret C hP hS h dX5_forms_182
    · replace h := h.2 c9
      refine lv_aload_n hx hb dX5_forms_124 rfl (lv_at hl 0 rfl) ?_
      refine lv_iload_n hx hb dX5_forms_125 rfl (lv_at hl 1 rfl) ?_
      refine lv_iload_n hx hb dX5_forms_126 rfl (lv_at hl 2 rfl) ?_
      refine lv_aload_n hx hb dX5_forms_127 rfl (lv_at hl 0 rfl) ?_
      refine lv_iload_n hx hb dX5_forms_128 rfl (lv_at hl 1 rfl) ?_
      refine lv_iload hx hb dX5_forms_129 (lv_at hl 5 rfl) ?_
      refine lv_iload hx hb dX5_forms_131 (lv_at hl 5 rfl) ?_
      refine fr_ci (fr_runV (n := 3) (rest := [.int v2, .int v1, .ref (adr 53)]) C (c_X5_product l D adr cs hN t v1 v6 v6 _ h) hP hS (by omega) (fG_MO adr cs t) rfl (fgV mw_9_17 mw_9_18 mw_9_19 mw_1_5 mw_9_20) rfl rfl rfl (by decide +kernel) ⟨Nat.le_of_ble_eq_true rfl, Nat.le_of_ble_eq_true rfl⟩ rfl hl.1 rfl (Nat.le_of_ble_eq_true rfl) dX5_forms_133) hS (fun r9 t8 H locs h hP hS => ?_)
      refine fr_ci (fr_runV (n := 3) (rest := []) C (c_X5_product l D adr cs hN t8 v1 v2 r9 _ h) hP hS (by omega) (fG_MO adr cs t8) rfl (fgV mw_9_17 mw_9_18 mw_9_19 mw_1_5 mw_9_20) rfl rfl rfl (by decide +kernel) ⟨Nat.le_of_ble_eq_true rfl, Nat.le_of_ble_eq_true rfl⟩ rfl hl.1 rfl (Nat.le_of_ble_eq_true rfl) dX5_forms_136) hS (fun r11 t10 H locs h hP hS => ?_)
      refine lv_istore (lv' := [(7, .int r11), (0, .ref (adr 53)), (1, .int v1), (2, .int v2), (4, .int v4), (5, .int v5), (6, .int v6)]) hx hb dX5_forms_139 hl (by decide) rfl (fun ls hl => ?_)
      refine lv_aload_n hx hb dX5_forms_141 rfl (lv_at hl 1 rfl) ?_
      refine lv_iload hx hb dX5_forms_142 (lv_at hl 4 rfl) ?_
      refine lv_aload_n hx hb dX5_forms_144 rfl (lv_at hl 1 rfl) ?_
      refine lv_iload_n hx hb dX5_forms_145 rfl (lv_at hl 2 rfl) ?_
      refine lv_aload_n hx hb dX5_forms_146 rfl (lv_at hl 1 rfl) ?_
      refine fr_get (j := 1) C hP (by omega) (fG_MO adr cs t10) rfl (fun w h => List.mem_cons_of_mem _ (inl_X5 w h)) (by decide) rfl (List.mem_cons_of_mem _ mw_7_5) rfl dX5_forms_147 ?_
      refine lv_iconst (v := 1) hx hb dX5_forms_150 (by decide) ?_
      refine lv_isub hx hb dX5_forms_151 ?_
      refine lv_iload hx hb dX5_forms_152 (lv_at hl 0 rfl) ?_
      refine fr_ci (fr_runV (n := 3) (rest := [.int v4, .ref (adr 53)]) C (c_X5_product l D adr cs hN t10 v1 (((fgi t10 53 1) - 1)) r11 _ h) hP hS (by omega) (fG_MO adr cs t10) rfl (fgV mw_9_17 mw_9_18 mw_9_19 mw_1_5 mw_9_20) rfl rfl rfl (by decide +kernel) ⟨Nat.le_of_ble_eq_true rfl, Nat.le_of_ble_eq_true rfl⟩ rfl hl.1 rfl (Nat.le_of_ble_eq_true rfl) dX5_forms_154) hS (fun r13 t12 H locs h hP hS => ?_)
      refine fr_ci (fr_runV (n := 2) (rest := []) C (c_X5_sum l D adr cs hN t12 v4 r13 _ h) hP hS (by omega) (fG_MO adr cs t12) rfl (fgV mw_12_7 mw_12_8 mw_12_9 mw_1_5 mw_12_10) rfl rfl rfl (by decide +kernel) ⟨Nat.le_of_ble_eq_true rfl, Nat.le_of_ble_eq_true rfl⟩ rfl hl.1 rfl (Nat.le_of_ble_eq_true rfl) dX5_forms_157) hS (fun r15 t14 H locs h hP hS => ?_)
      refine lv_istore (lv' := [(8, .int r15), (7, .int r11), (0, .ref (adr 53)), (1, .int v1), (2, .int v2), (4, .int v4), (5, .int v5), (6, .int v6)]) hx hb dX5_forms_160 hl (by decide) rfl (fun ls hl => ?_)
      refine lv_iload hx hb dX5_forms_162 (lv_at hl 6 rfl) ?_
      refine lv_aload_n hx hb dX5_forms_164 rfl (lv_at hl 2 rfl) ?_
      refine fr_get (j := 20) C hP (by omega) (fG_MO adr cs t14) rfl (fun w h => List.mem_cons_of_mem _ (inl_X5 w h)) (by decide) rfl (List.mem_cons_of_mem _ mw_7_19) rfl dX5_forms_165 ?_
      refine lv_iload hx hb dX5_forms_168 (lv_at hl 0 rfl) ?_
      refine fr_iald C hP (by omega) (fG_64 adr cs t14) h.1 dX5_forms_170 ?_
      replace h := h.2
      refine lv_iadd hx hb dX5_forms_171 ?_
      refine lv_topi (fun x16 ex16 => ?_)
      replace h := h x16 ex16
      refine lv_istore (lv' := [(5, .int x16), (8, .int r15), (7, .int r11), (0, .ref (adr 53)), (1, .int v1), (2, .int v2), (4, .int v4), (6, .int v6)]) hx hb dX5_forms_172 hl (by decide) rfl (fun ls hl => ?_)
      obtain ⟨x17, ex17⟩ : ∃ y : Int32, y = v6 + 1 := ⟨_, rfl⟩
      replace h := h x17 ex17
      refine lv_iinc (v := x17) (lv' := [(6, .int x17), (5, .int x16), (8, .int r15), (7, .int r11), (0, .ref (adr 53)), (1, .int v1), (2, .int v2), (4, .int v4)]) hx hb dX5_forms_174 hl (k := 7) rfl (by rw [ex17]; rfl) (by decide) rfl (fun ls hl => ?_)
      refine lv_goto (tgt := 113) hx hb dX5_forms_177 (by decide) ?_
      exact ih v1 v2 v4 x16 x17 t14 _ _ _ h hP hS (lv_sub hl [4, 5, 6, 7, 1, 0] rfl)

set_option maxHeartbeats 4000000 in
set_option maxRecDepth 100000 in
theorem k_X5_forms_66 {D : va_G} {adr : Nat → Nat} {cs : Nat → ClassId} {N : Nat} (hN : 67 ≤ N) {p : Program} {l : Launch} {e : Env} {s : State} {m : MethodId} {args : Array Value} {below : List Frame} {meth : Method} {c : Code} (C : fCx D adr cs N p s m args meth c cX5_forms 9 (some .int) RX5 wm_X5_forms) {post : Int32 → fcS → Prop} : ∀ (n : Nat) (v1 : Int32) (v2 : Int32) (v3 : Int32) (v4 : Int32) (v5 : Int32) (t : fcS) (H : Heap) (locs : List Loc) (ls : Array Slot), q_X5_forms_66 post n v1 v2 v3 v4 v5 t → va_P D vwCl (fwl adr N (fG adr cs t)) H → va_S (faN adr N) s.heap H locs → lv_has ls 9 [(0, .ref (adr 53)), (1, .int v1), (2, .int v2), (3, .int v3), (4, .int v4), (5, .int v5)] → W p l e ({ frames := 3, cells := 0, slots := 0, locals := 75 } : Room) s m args below meth c H locs 0 0 (MQ below (fQi D adr cs N post) args s 0 0 (faN adr N)) (F0 m 66 ls []) := by
  have hx := C.1.1
  have hb := C.1.2.1
  intro n
  induction n with
  | zero => intro v1 v2 v3 v4 v5 t H locs ls h; exact False.elim h
  | succ n ih =>
    intro v1 v2 v3 v4 v5 t H locs ls h hP hS hl
    unfold q_X5_forms_66 at h
    refine lv_iload hx hb dX5_forms_66 (lv_at hl 5 rfl) ?_
    refine lv_aload_n hx hb dX5_forms_68 rfl (lv_at hl 0 rfl) ?_
    refine fr_get (j := 3) C hP (by omega) (fG_MO adr cs t) rfl (fun w h => List.mem_cons_of_mem _ (inl_X5 w h)) (by decide) rfl (List.mem_cons_of_mem _ mw_7_7) rfl dX5_forms_69 ?_
    refine lv_iload_n hx hb dX5_forms_72 rfl (lv_at hl 1 rfl) ?_
    refine fr_iald C hP (by omega) (fG_54 adr cs t) h.1 dX5_forms_73 ?_
    replace h := h.2
    refine lv_icmp_ge (tgt := 107) hx hb dX5_forms_74 (by decide) (fun c9 => ?_) (fun c9 => ?_)
    · replace h := h.1 c9
      refine lv_iconst (v := 0) hx hb dX5_forms_107 (by decide) ?_
      refine lv_istore (lv' := [(5, .int 0), (0, .ref (adr 53)), (1, .int v1), (2, .int v2), (3, .int v3), (4, .int v4)]) hx hb dX5_forms_108 hl (by decide) rfl (fun ls hl => ?_)
      refine lv_iconst (v := 0) hx hb dX5_forms_110 (by decide) ?_
      refine lv_istore (lv' := [(6, .int 0), (5, .int 0), (0, .ref (adr 53)), (1, .int v1), (2, .int v2), (3, .int v3), (4, .int v4)]) hx hb dX5_forms_111 hl (by decide) rfl (fun ls hl => ?_)
      obtain ⟨n9, h⟩ := h
      exact k_X5_forms_113 hN C n9 v1 v2 v4 0 0 t _ _ _ h hP hS (lv_sub hl [2, 3, 4, 6, 1, 0] rfl)
    · replace h := h.2 c9
      refine lv_aload_n hx hb dX5_forms_77 rfl (lv_at hl 0 rfl) ?_
      refine fr_get (j := 20) C hP (by omega) (fG_MO adr cs t) rfl (fun w h => List.mem_cons_of_mem _ (inl_X5 w h)) (by decide) rfl (List.mem_cons_of_mem _ mw_7_19) rfl dX5_forms_78 ?_
      refine lv_aload_n hx hb dX5_forms_81 rfl (lv_at hl 0 rfl) ?_
      refine lv_iload_n hx hb dX5_forms_82 rfl (lv_at hl 1 rfl) ?_
      refine lv_iload_n hx hb dX5_forms_83 rfl (lv_at hl 3 rfl) ?_
      refine lv_aload_n hx hb dX5_forms_84 rfl (lv_at hl 0 rfl) ?_
      refine lv_iload_n hx hb dX5_forms_85 rfl (lv_at hl 1 rfl) ?_
      refine lv_iload hx hb dX5_forms_86 (lv_at hl 5 rfl) ?_
      refine lv_iload hx hb dX5_forms_88 (lv_at hl 5 rfl) ?_
      refine fr_ci (fr_runV (n := 3) (rest := [.int v3, .int v1, .ref (adr 53), .ref (adr 64)]) C (c_X5_product l D adr cs hN t v1 v5 v5 _ h) hP hS (by omega) (fG_MO adr cs t) rfl (fgV mw_9_17 mw_9_18 mw_9_19 mw_1_5 mw_9_20) rfl rfl rfl (by decide +kernel) ⟨Nat.le_of_ble_eq_true rfl, Nat.le_of_ble_eq_true rfl⟩ rfl hl.1 rfl (Nat.le_of_ble_eq_true rfl) dX5_forms_90) hS (fun r19 t18 H locs h hP hS => ?_)
      refine fr_ci (fr_runV (n := 3) (rest := [.ref (adr 64)]) C (c_X5_product l D adr cs hN t18 v1 v3 r19 _ h) hP hS (by omega) (fG_MO adr cs t18) rfl (fgV mw_9_17 mw_9_18 mw_9_19 mw_1_5 mw_9_20) rfl rfl rfl (by decide +kernel) ⟨Nat.le_of_ble_eq_true rfl, Nat.le_of_ble_eq_true rfl⟩ rfl hl.1 rfl (Nat.le_of_ble_eq_true rfl) dX5_forms_93) hS (fun r21 t20 H locs h hP hS => ?_)
      refine lv_dup2_11 hx hb dX5_forms_96 rfl rfl ?_
      refine fr_iald C hP (by omega) (fG_64 adr cs t20) h.1 dX5_forms_97 ?_
      replace h := h.2
      refine lv_iconst (v := 1) hx hb dX5_forms_98 (by decide) ?_
      refine lv_iadd hx hb dX5_forms_99 ?_
      refine fr_iast C hP hS (by omega) (fun u => (fG_64 adr cs u)) h.1 dX5_forms_100 (fun H locs hP hS => ?_)
      obtain ⟨t22, et22⟩ : ∃ y : fcS, y = fsa t20 64 (Int32.toNatClampNeg r21) (((fga t20 64 (Int32.toNatClampNeg r21)) + 1)) := ⟨_, rfl⟩
      rw [← et22] at hP
      replace h := h.2 t22 et22
      obtain ⟨x23, ex23⟩ : ∃ y : Int32, y = v5 + 1 := ⟨_, rfl⟩
      replace h := h x23 ex23
      refine lv_iinc (v := x23) (lv' := [(5, .int x23), (0, .ref (adr 53)), (1, .int v1), (2, .int v2), (3, .int v3), (4, .int v4)]) hx hb dX5_forms_101 hl (k := 5) rfl (by rw [ex23]; rfl) (by decide) rfl (fun ls hl => ?_)
      refine lv_goto (tgt := 66) hx hb dX5_forms_104 (by decide) ?_
      exact ih v1 v2 v3 v4 x23 t22 _ _ _ h hP hS (lv_sub hl [1, 2, 3, 4, 5, 0] rfl)

set_option maxHeartbeats 4000000 in
set_option maxRecDepth 100000 in
theorem k_X5_forms_38 {D : va_G} {adr : Nat → Nat} {cs : Nat → ClassId} {N : Nat} (hN : 67 ≤ N) {p : Program} {l : Launch} {e : Env} {s : State} {m : MethodId} {args : Array Value} {below : List Frame} {meth : Method} {c : Code} (C : fCx D adr cs N p s m args meth c cX5_forms 9 (some .int) RX5 wm_X5_forms) {post : Int32 → fcS → Prop} : ∀ (n : Nat) (v1 : Int32) (v2 : Int32) (v3 : Int32) (v4 : Int32) (v5 : Int32) (t : fcS) (H : Heap) (locs : List Loc) (ls : Array Slot), q_X5_forms_38 post n v1 v2 v3 v4 v5 t → va_P D vwCl (fwl adr N (fG adr cs t)) H → va_S (faN adr N) s.heap H locs → lv_has ls 9 [(0, .ref (adr 53)), (1, .int v1), (2, .int v2), (3, .int v3), (4, .int v4), (5, .int v5)] → W p l e ({ frames := 3, cells := 0, slots := 0, locals := 75 } : Room) s m args below meth c H locs 0 0 (MQ below (fQi D adr cs N post) args s 0 0 (faN adr N)) (F0 m 38 ls []) := by
  have hx := C.1.1
  have hb := C.1.2.1
  intro n
  induction n with
  | zero => intro v1 v2 v3 v4 v5 t H locs ls h; exact False.elim h
  | succ n ih =>
    intro v1 v2 v3 v4 v5 t H locs ls h hP hS hl
    unfold q_X5_forms_38 at h
    refine lv_iload hx hb dX5_forms_38 (lv_at hl 5 rfl) ?_
    refine lv_aload_n hx hb dX5_forms_40 rfl (lv_at hl 0 rfl) ?_
    refine fr_get (j := 3) C hP (by omega) (fG_MO adr cs t) rfl (fun w h => List.mem_cons_of_mem _ (inl_X5 w h)) (by decide) rfl (List.mem_cons_of_mem _ mw_7_7) rfl dX5_forms_41 ?_
    refine lv_iload_n hx hb dX5_forms_44 rfl (lv_at hl 1 rfl) ?_
    refine fr_iald C hP (by omega) (fG_54 adr cs t) h.1 dX5_forms_45 ?_
    replace h := h.2
    refine lv_icmp_ge (tgt := 63) hx hb dX5_forms_46 (by decide) (fun c9 => ?_) (fun c9 => ?_)
    · replace h := h.1 c9
      refine lv_iconst (v := 0) hx hb dX5_forms_63 (by decide) ?_
      refine lv_istore (lv' := [(5, .int 0), (0, .ref (adr 53)), (1, .int v1), (2, .int v2), (3, .int v3), (4, .int v4)]) hx hb dX5_forms_64 hl (by decide) rfl (fun ls hl => ?_)
      obtain ⟨n9, h⟩ := h
      exact k_X5_forms_66 hN C n9 v1 v2 v3 v4 0 t _ _ _ h hP hS (lv_sub hl [1, 2, 3, 4, 5, 0] rfl)
    · replace h := h.2 c9
      refine lv_aload_n hx hb dX5_forms_49 rfl (lv_at hl 0 rfl) ?_
      refine fr_get (j := 20) C hP (by omega) (fG_MO adr cs t) rfl (fun w h => List.mem_cons_of_mem _ (inl_X5 w h)) (by decide) rfl (List.mem_cons_of_mem _ mw_7_19) rfl dX5_forms_50 ?_
      refine lv_iload hx hb dX5_forms_53 (lv_at hl 5 rfl) ?_
      refine lv_iconst (v := 0) hx hb dX5_forms_55 (by decide) ?_
      refine fr_iast C hP hS (by omega) (fun u => (fG_64 adr cs u)) h.1 dX5_forms_56 (fun H locs hP hS => ?_)
      obtain ⟨t24, et24⟩ : ∃ y : fcS, y = fsa t 64 (Int32.toNatClampNeg v5) 0 := ⟨_, rfl⟩
      rw [← et24] at hP
      replace h := h.2 t24 et24
      obtain ⟨x25, ex25⟩ : ∃ y : Int32, y = v5 + 1 := ⟨_, rfl⟩
      replace h := h x25 ex25
      refine lv_iinc (v := x25) (lv' := [(5, .int x25), (0, .ref (adr 53)), (1, .int v1), (2, .int v2), (3, .int v3), (4, .int v4)]) hx hb dX5_forms_57 hl (k := 5) rfl (by rw [ex25]; rfl) (by decide) rfl (fun ls hl => ?_)
      refine lv_goto (tgt := 38) hx hb dX5_forms_60 (by decide) ?_
      exact ih v1 v2 v3 v4 x25 t24 _ _ _ h hP hS (lv_sub hl [1, 2, 3, 4, 5, 0] rfl)

set_option maxHeartbeats 4000000 in
set_option maxRecDepth 100000 in
theorem c_X5_forms (l : Launch) (D : va_G) (adr : Nat → Nat) (cs : Nat → ClassId) {N : Nat} (hN : 67 ≤ N) (t : fcS) (a0 : Int32) (a1 : Int32) (a2 : Int32) (a3 : Int32) (post : Int32 → fcS → Prop) (h : q_X5_forms t a0 a1 a2 a3 post) : Met l yX5_forms wm_X5_forms ({ frames := 3, cells := 0, slots := 0, locals := 75 } : Room) (fcPre D adr cs N t [.ref (adr 53), .int a0, .int a1, .int a2, .int a3]) (fQi D adr cs N post) 0 0 (faN adr N) := by
  refine f_enter (cc := cX5_forms) (nL := 9) (ret := some .int) (lv := [(0, .ref (adr 53)), (1, .int a0), (2, .int a1), (3, .int a2), (4, .int a3)]) (own := RX5) (by decide) rfl (Nat.le_of_ble_eq_true rfl) rfl rfl ?_
  intro p e s m below meth c ls C hP hS hl
  have hx := C.1.1
  have hb := C.1.2.1
  unfold q_X5_forms at h
  refine lv_aload_n hx hb dX5_forms_0 rfl (lv_at hl 0 rfl) ?_
  refine lv_iconst (v := 0) hx hb dX5_forms_1 (by decide) ?_
  refine fr_put C (fsi t 53 0 0) (j := 0) (ty := .int) hP hS (by omega) (fG_MO adr cs t) rfl (fun w h => List.mem_cons_of_mem _ (inl_X5 w h)) tyX5_ok nmX5 (by decide) rfl (List.mem_cons_of_mem _ mw_10_14) rfl (by decide +kernel) rfl rfl (Nat.le_of_ble_eq_true rfl) (fS_MO_0 adr cs t 0) (fG_fsi_ne adr cs t 53 0 0) dX5_forms_2 (fun H locs hP hS => ?_)
  obtain ⟨t1, et1⟩ : ∃ y : fcS, y = fsi t 53 0 0 := ⟨_, rfl⟩
  rw [← et1] at hP
  replace h := h t1 et1
  refine lv_aload_n hx hb dX5_forms_5 rfl (lv_at hl 0 rfl) ?_
  refine lv_iload_n hx hb dX5_forms_6 rfl (lv_at hl 1 rfl) ?_
  refine lv_iload_n hx hb dX5_forms_7 rfl (lv_at hl 2 rfl) ?_
  refine fr_ci (fr_runV (n := 2) (rest := []) C (c_X5_isNumber l D adr cs hN t1 a0 a1 _ h) hP hS (by omega) (fG_MO adr cs t1) rfl (fgV mw_12_3 mw_12_4 mw_12_5 mw_1_5 mw_12_6) rfl rfl rfl (by decide +kernel) ⟨Nat.le_of_ble_eq_true rfl, Nat.le_of_ble_eq_true rfl⟩ rfl hl.1 rfl (Nat.le_of_ble_eq_true rfl) dX5_forms_8) hS (fun r3 t2 H locs h hP hS => ?_)
  refine lv_if_eq (tgt := 33) hx hb dX5_forms_11 (by decide) (fun c9 => ?_) (fun c9 => ?_)
  · replace h := h.1 c9
    refine lv_iconst (v := (-1)) hx hb dX5_forms_33 (by decide) ?_
    exact fr_iret C hP hS h dX5_forms_34
  · replace h := h.2 c9
    refine lv_aload_n hx hb dX5_forms_14 rfl (lv_at hl 0 rfl) ?_
    refine lv_iload_n hx hb dX5_forms_15 rfl (lv_at hl 1 rfl) ?_
    refine lv_iload_n hx hb dX5_forms_16 rfl (lv_at hl 3 rfl) ?_
    refine fr_ci (fr_runV (n := 2) (rest := []) C (c_X5_isNumber l D adr cs hN t2 a0 a2 _ h) hP hS (by omega) (fG_MO adr cs t2) rfl (fgV mw_12_3 mw_12_4 mw_12_5 mw_1_5 mw_12_6) rfl rfl rfl (by decide +kernel) ⟨Nat.le_of_ble_eq_true rfl, Nat.le_of_ble_eq_true rfl⟩ rfl hl.1 rfl (Nat.le_of_ble_eq_true rfl) dX5_forms_17) hS (fun r5 t4 H locs h hP hS => ?_)
    refine lv_if_eq (tgt := 33) hx hb dX5_forms_20 (by decide) (fun c9 => ?_) (fun c9 => ?_)
    · replace h := h.1 c9
      refine lv_iconst (v := (-1)) hx hb dX5_forms_33 (by decide) ?_
      exact fr_iret C hP hS h dX5_forms_34
    · replace h := h.2 c9
      refine lv_aload_n hx hb dX5_forms_23 rfl (lv_at hl 0 rfl) ?_
      refine lv_iload_n hx hb dX5_forms_24 rfl (lv_at hl 1 rfl) ?_
      refine lv_iload hx hb dX5_forms_25 (lv_at hl 4 rfl) ?_
      refine fr_ci (fr_runV (n := 2) (rest := []) C (c_X5_isNumber l D adr cs hN t4 a0 a3 _ h) hP hS (by omega) (fG_MO adr cs t4) rfl (fgV mw_12_3 mw_12_4 mw_12_5 mw_1_5 mw_12_6) rfl rfl rfl (by decide +kernel) ⟨Nat.le_of_ble_eq_true rfl, Nat.le_of_ble_eq_true rfl⟩ rfl hl.1 rfl (Nat.le_of_ble_eq_true rfl) dX5_forms_27) hS (fun r7 t6 H locs h hP hS => ?_)
      refine lv_if_ne (tgt := 35) hx hb dX5_forms_30 (by decide) (fun c9 => ?_) (fun c9 => ?_)
      · replace h := h.1 c9
        refine lv_iconst (v := 0) hx hb dX5_forms_35 (by decide) ?_
        refine lv_istore (lv' := [(5, .int 0), (0, .ref (adr 53)), (1, .int a0), (2, .int a1), (3, .int a2), (4, .int a3)]) hx hb dX5_forms_36 hl (by decide) rfl (fun ls hl => ?_)
        obtain ⟨n9, h⟩ := h
        exact k_X5_forms_38 hN C n9 a0 a1 a2 a3 0 t6 _ _ _ h hP hS (lv_sub hl [1, 2, 3, 4, 5, 0] rfl)
      · replace h := h.2 c9
        refine lv_iconst (v := (-1)) hx hb dX5_forms_33 (by decide) ?_
        exact fr_iret C hP hS h dX5_forms_34

/-! X5.isCurve -/
abbrev wm_X5_isCurve : List Cond := Cond.code yX5_isCurve cX5_isCurve 2 (some .boolean) :: wsL_law
def q_X5_isCurve (t : fcS) (a0 : Int32) (post : Int32 → fcS → Prop) : Prop := q_X5_in t ((Int32.toInt64 a0)) 0 ((Int32.toInt64 (((fgi t 53 6) - 1)))) (fun (r2 : Int32) (t1 : fcS) => (r2 = 0 ∨ r2 = 1) ∧ (post r2 t1))
set_option maxHeartbeats 4000000 in
set_option maxRecDepth 100000 in
theorem c_X5_isCurve (l : Launch) (D : va_G) (adr : Nat → Nat) (cs : Nat → ClassId) {N : Nat} (hN : 67 ≤ N) (t : fcS) (a0 : Int32) (post : Int32 → fcS → Prop) (h : q_X5_isCurve t a0 post) : Met l yX5_isCurve wm_X5_isCurve ({ frames := 1, cells := 0, slots := 0, locals := 25 } : Room) (fcPre D adr cs N t [.ref (adr 53), .int a0]) (fQi D adr cs N post) 0 0 (faN adr N) := by
  refine f_enter (cc := cX5_isCurve) (nL := 2) (ret := some .boolean) (lv := [(0, .ref (adr 53)), (1, .int a0)]) (own := RX5) (by decide) rfl (Nat.le_of_ble_eq_true rfl) rfl rfl ?_
  intro p e s m below meth c ls C hP hS hl
  have hx := C.1.1
  have hb := C.1.2.1
  unfold q_X5_isCurve at h
  refine lv_iload_n hx hb dX5_isCurve_0 rfl (lv_at hl 1 rfl) ?_
  refine lv_i2l hx hb dX5_isCurve_1 rfl ?_
  refine lv_lconst (v := 0) hx hb dX5_isCurve_2 (by decide) ?_
  refine lv_aload_n hx hb dX5_isCurve_3 rfl (lv_at hl 0 rfl) ?_
  refine fr_get (j := 6) C hP (by omega) (fG_MO adr cs t) rfl (fun w h => List.mem_cons_of_mem _ (inl_X5 w h)) (by decide) rfl (List.mem_cons_of_mem _ mw_8_2) rfl dX5_isCurve_4 ?_
  refine lv_iconst (v := 1) hx hb dX5_isCurve_7 (by decide) ?_
  refine lv_isub hx hb dX5_isCurve_8 ?_
  refine lv_i2l hx hb dX5_isCurve_9 rfl ?_
  refine fr_ci (fr_runS (n := 3) (rest := []) C (c_X5_in l D adr cs hN t ((Int32.toInt64 a0)) 0 ((Int32.toInt64 (((fgi t 53 6) - 1)))) _ h) hP hS (fgS mw_11_3 mw_11_4 mw_1_5 mw_11_5) rfl rfl rfl (by decide +kernel) ⟨Nat.le_of_ble_eq_true rfl, Nat.le_of_ble_eq_true rfl⟩ rfl hl.1 rfl (Nat.le_of_ble_eq_true rfl) dX5_isCurve_10) hS (fun r2 t1 H locs h hP hS => ?_)
  exact fr_zret C hP hS (by rcases h.1 with q | q <;> rw [q] <;> rfl) h.2 dX5_isCurve_13

/-! X5.degreeOf -/
abbrev wm_X5_degreeOf : List Cond := Cond.code yX5_degreeOf cX5_degreeOf 3 (some .int) :: wsL_law
def q_X5_degreeOf_3 (post : Int32 → fcS → Prop) : Nat → Int32 → Int32 → fcS → Prop
  | 0, _, _, _ => False
  | n + 1, v1, v2, t => (vp_in (((16 * v1) + v2)) 128) ∧ ((¬ (fga t 59 (Int32.toNatClampNeg (((16 * v1) + v2)))) = 0 → (post v2 t)) ∧ ((fga t 59 (Int32.toNatClampNeg (((16 * v1) + v2)))) = 0 → (∀ x1 : Int32, x1 = v2 + (-1) → (q_X5_degreeOf_3 post n v1 x1 t))))
def q_X5_degreeOf (t : fcS) (a0 : Int32) (post : Int32 → fcS → Prop) : Prop := ∃ n0, q_X5_degreeOf_3 post n0 a0 15 t
set_option maxHeartbeats 4000000 in
set_option maxRecDepth 100000 in
theorem k_X5_degreeOf_3 {D : va_G} {adr : Nat → Nat} {cs : Nat → ClassId} {N : Nat} (hN : 67 ≤ N) {p : Program} {l : Launch} {e : Env} {s : State} {m : MethodId} {args : Array Value} {below : List Frame} {meth : Method} {c : Code} (C : fCx D adr cs N p s m args meth c cX5_degreeOf 3 (some .int) RX5 wm_X5_degreeOf) {post : Int32 → fcS → Prop} : ∀ (n : Nat) (v1 : Int32) (v2 : Int32) (t : fcS) (H : Heap) (locs : List Loc) (ls : Array Slot), q_X5_degreeOf_3 post n v1 v2 t → va_P D vwCl (fwl adr N (fG adr cs t)) H → va_S (faN adr N) s.heap H locs → lv_has ls 3 [(0, .ref (adr 53)), (1, .int v1), (2, .int v2)] → W p l e ({ frames := 0, cells := 0, slots := 0, locals := 0 } : Room) s m args below meth c H locs 0 0 (MQ below (fQi D adr cs N post) args s 0 0 (faN adr N)) (F0 m 3 ls []) := by
  have hx := C.1.1
  have hb := C.1.2.1
  intro n
  induction n with
  | zero => intro v1 v2 t H locs ls h; exact False.elim h
  | succ n ih =>
    intro v1 v2 t H locs ls h hP hS hl
    unfold q_X5_degreeOf_3 at h
    refine lv_aload_n hx hb dX5_degreeOf_3 rfl (lv_at hl 0 rfl) ?_
    refine fr_get (j := 10) C hP (by omega) (fG_MO adr cs t) rfl (fun w h => List.mem_cons_of_mem _ (inl_X5 w h)) (by decide) rfl (List.mem_cons_of_mem _ mw_7_12) rfl dX5_degreeOf_4 ?_
    refine lv_bipush (v := 16) hx hb dX5_degreeOf_7 (by decide) ?_
    refine lv_iload_n hx hb dX5_degreeOf_9 rfl (lv_at hl 1 rfl) ?_
    refine lv_imul hx hb dX5_degreeOf_10 ?_
    refine lv_iload_n hx hb dX5_degreeOf_11 rfl (lv_at hl 2 rfl) ?_
    refine lv_iadd hx hb dX5_degreeOf_12 ?_
    refine fr_iald C hP (by omega) (fG_59 adr cs t) h.1 dX5_degreeOf_13 ?_
    replace h := h.2
    refine lv_if_ne (tgt := 23) hx hb dX5_degreeOf_14 (by decide) (fun c9 => ?_) (fun c9 => ?_)
    · replace h := h.1 c9
      refine lv_iload_n hx hb dX5_degreeOf_23 rfl (lv_at hl 2 rfl) ?_
      exact fr_iret C hP hS h dX5_degreeOf_24
    · replace h := h.2 c9
      obtain ⟨x1, ex1⟩ : ∃ y : Int32, y = v2 + (-1) := ⟨_, rfl⟩
      replace h := h x1 ex1
      refine lv_iinc (v := x1) (lv' := [(2, .int x1), (0, .ref (adr 53)), (1, .int v1)]) hx hb dX5_degreeOf_17 hl (k := 2) rfl (by rw [ex1]; rfl) (by decide) rfl (fun ls hl => ?_)
      refine lv_goto (tgt := 3) hx hb dX5_degreeOf_20 (by decide) ?_
      exact ih v1 x1 t _ _ _ h hP hS (lv_sub hl [1, 2, 0] rfl)

set_option maxHeartbeats 4000000 in
set_option maxRecDepth 100000 in
theorem c_X5_degreeOf (l : Launch) (D : va_G) (adr : Nat → Nat) (cs : Nat → ClassId) {N : Nat} (hN : 67 ≤ N) (t : fcS) (a0 : Int32) (post : Int32 → fcS → Prop) (h : q_X5_degreeOf t a0 post) : Met l yX5_degreeOf wm_X5_degreeOf ({ frames := 0, cells := 0, slots := 0, locals := 0 } : Room) (fcPre D adr cs N t [.ref (adr 53), .int a0]) (fQi D adr cs N post) 0 0 (faN adr N) := by
  refine f_enter (cc := cX5_degreeOf) (nL := 3) (ret := some .int) (lv := [(0, .ref (adr 53)), (1, .int a0)]) (own := RX5) (by decide) rfl (Nat.le_of_ble_eq_true rfl) rfl rfl ?_
  intro p e s m below meth c ls C hP hS hl
  have hx := C.1.1
  have hb := C.1.2.1
  unfold q_X5_degreeOf at h
  refine lv_bipush (v := 15) hx hb dX5_degreeOf_0 (by decide) ?_
  refine lv_istore_n (lv' := [(2, .int 15), (0, .ref (adr 53)), (1, .int a0)]) hx hb dX5_degreeOf_2 rfl hl (by decide) rfl (fun ls hl => ?_)
  obtain ⟨n9, h⟩ := h
  exact k_X5_degreeOf_3 hN C n9 a0 15 t _ _ _ h hP hS (lv_sub hl [1, 2, 0] rfl)

/-! X5.genusOf -/
abbrev wm_X5_genusOf : List Cond := Cond.code yX5_genusOf cX5_genusOf 2 (some .int) :: wsL_law
def q_X5_genusOf (t : fcS) (a0 : Int32) (post : Int32 → fcS → Prop) : Prop := q_X5_degreeOf t a0 (fun (r2 : Int32) (t1 : fcS) => (5 ≤ r2 → (post 2 t1)) ∧ (¬ 5 ≤ r2 → (post 1 t1)))
set_option maxHeartbeats 4000000 in
set_option maxRecDepth 100000 in
theorem c_X5_genusOf (l : Launch) (D : va_G) (adr : Nat → Nat) (cs : Nat → ClassId) {N : Nat} (hN : 67 ≤ N) (t : fcS) (a0 : Int32) (post : Int32 → fcS → Prop) (h : q_X5_genusOf t a0 post) : Met l yX5_genusOf wm_X5_genusOf ({ frames := 1, cells := 0, slots := 0, locals := 22 } : Room) (fcPre D adr cs N t [.ref (adr 53), .int a0]) (fQi D adr cs N post) 0 0 (faN adr N) := by
  refine f_enter (cc := cX5_genusOf) (nL := 2) (ret := some .int) (lv := [(0, .ref (adr 53)), (1, .int a0)]) (own := RX5) (by decide) rfl (Nat.le_of_ble_eq_true rfl) rfl rfl ?_
  intro p e s m below meth c ls C hP hS hl
  have hx := C.1.1
  have hb := C.1.2.1
  unfold q_X5_genusOf at h
  refine lv_aload_n hx hb dX5_genusOf_0 rfl (lv_at hl 0 rfl) ?_
  refine lv_iload_n hx hb dX5_genusOf_1 rfl (lv_at hl 1 rfl) ?_
  refine fr_ci (fr_runV (n := 1) (rest := []) C (c_X5_degreeOf l D adr cs hN t a0 _ h) hP hS (by omega) (fG_MO adr cs t) rfl (fgV mw_20_3 mw_20_4 mw_20_5 mw_1_5 mw_20_6) rfl rfl rfl (by decide +kernel) ⟨Nat.le_of_ble_eq_true rfl, Nat.le_of_ble_eq_true rfl⟩ rfl hl.1 rfl (Nat.le_of_ble_eq_true rfl) dX5_genusOf_2) hS (fun r2 t1 H locs h hP hS => ?_)
  refine lv_iconst (v := 5) hx hb dX5_genusOf_5 (by decide) ?_
  refine lv_icmp_ge (tgt := 13) hx hb dX5_genusOf_6 (by decide) (fun c9 => ?_) (fun c9 => ?_)
  · replace h := h.1 c9
    refine lv_iconst (v := 2) hx hb dX5_genusOf_13 (by decide) ?_
    exact fr_iret C hP hS h dX5_genusOf_14
  · replace h := h.2 c9
    refine lv_iconst (v := 1) hx hb dX5_genusOf_9 (by decide) ?_
    refine lv_goto (tgt := 14) hx hb dX5_genusOf_10 (by decide) ?_
    exact fr_iret C hP hS h dX5_genusOf_14

/-! X5.loadOwn -/
abbrev wm_X5_loadOwn : List Cond := Cond.code yX5_loadOwn cX5_loadOwn 4 none :: wsL_law
def q_X5_loadOwn_2 (post : fcS → Prop) : Nat → Int32 → Int32 → Int32 → fcS → Prop
  | 0, _, _, _, _ => False
  | n + 1, v1, v2, v3, t => (16 ≤ v3 → (post t)) ∧ (¬ 16 ≤ v3 → ((vp_in (((16 * v2) + v3)) 128) ∧ ((vp_in (((16 * v1) + v3)) 640) ∧ (∀ t1 : fcS, t1 = fsa t 60 (Int32.toNatClampNeg (((16 * v1) + v3))) ((fga t 59 (Int32.toNatClampNeg (((16 * v2) + v3))))) → (∀ x2 : Int32, x2 = v3 + 1 → (q_X5_loadOwn_2 post n v1 v2 x2 t1))))))
def q_X5_loadOwn (t : fcS) (a0 : Int32) (a1 : Int32) (post : fcS → Prop) : Prop := ∃ n0, q_X5_loadOwn_2 post n0 a0 a1 0 t
set_option maxHeartbeats 4000000 in
set_option maxRecDepth 100000 in
theorem k_X5_loadOwn_2 {D : va_G} {adr : Nat → Nat} {cs : Nat → ClassId} {N : Nat} (hN : 67 ≤ N) {p : Program} {l : Launch} {e : Env} {s : State} {m : MethodId} {args : Array Value} {below : List Frame} {meth : Method} {c : Code} (C : fCx D adr cs N p s m args meth c cX5_loadOwn 4 (none) RX5 wm_X5_loadOwn) {post : fcS → Prop} : ∀ (n : Nat) (v1 : Int32) (v2 : Int32) (v3 : Int32) (t : fcS) (H : Heap) (locs : List Loc) (ls : Array Slot), q_X5_loadOwn_2 post n v1 v2 v3 t → va_P D vwCl (fwl adr N (fG adr cs t)) H → va_S (faN adr N) s.heap H locs → lv_has ls 4 [(0, .ref (adr 53)), (1, .int v1), (2, .int v2), (3, .int v3)] → W p l e ({ frames := 0, cells := 0, slots := 0, locals := 0 } : Room) s m args below meth c H locs 0 0 (MQ below (fQv D adr cs N post) args s 0 0 (faN adr N)) (F0 m 2 ls []) := by
  have hx := C.1.1
  have hb := C.1.2.1
  intro n
  induction n with
  | zero => intro v1 v2 v3 t H locs ls h; exact False.elim h
  | succ n ih =>
    intro v1 v2 v3 t H locs ls h hP hS hl
    unfold q_X5_loadOwn_2 at h
    refine lv_iload_n hx hb dX5_loadOwn_2 rfl (lv_at hl 3 rfl) ?_
    refine lv_bipush (v := 16) hx hb dX5_loadOwn_3 (by decide) ?_
    refine lv_icmp_ge (tgt := 36) hx hb dX5_loadOwn_5 (by decide) (fun c9 => ?_) (fun c9 => ?_)
    · replace h := h.1 c9
      exact fr_vret C hP hS h dX5_loadOwn_36
    · replace h := h.2 c9
      refine lv_aload_n hx hb dX5_loadOwn_8 rfl (lv_at hl 0 rfl) ?_
      refine fr_get (j := 13) C hP (by omega) (fG_MO adr cs t) rfl (fun w h => List.mem_cons_of_mem _ (inl_X5 w h)) (by decide) rfl (List.mem_cons_of_mem _ mw_7_14) rfl dX5_loadOwn_9 ?_
      refine lv_bipush (v := 16) hx hb dX5_loadOwn_12 (by decide) ?_
      refine lv_iload_n hx hb dX5_loadOwn_14 rfl (lv_at hl 1 rfl) ?_
      refine lv_imul hx hb dX5_loadOwn_15 ?_
      refine lv_iload_n hx hb dX5_loadOwn_16 rfl (lv_at hl 3 rfl) ?_
      refine lv_iadd hx hb dX5_loadOwn_17 ?_
      refine lv_aload_n hx hb dX5_loadOwn_18 rfl (lv_at hl 0 rfl) ?_
      refine fr_get (j := 10) C hP (by omega) (fG_MO adr cs t) rfl (fun w h => List.mem_cons_of_mem _ (inl_X5 w h)) (by decide) rfl (List.mem_cons_of_mem _ mw_7_12) rfl dX5_loadOwn_19 ?_
      refine lv_bipush (v := 16) hx hb dX5_loadOwn_22 (by decide) ?_
      refine lv_iload_n hx hb dX5_loadOwn_24 rfl (lv_at hl 2 rfl) ?_
      refine lv_imul hx hb dX5_loadOwn_25 ?_
      refine lv_iload_n hx hb dX5_loadOwn_26 rfl (lv_at hl 3 rfl) ?_
      refine lv_iadd hx hb dX5_loadOwn_27 ?_
      refine fr_iald C hP (by omega) (fG_59 adr cs t) h.1 dX5_loadOwn_28 ?_
      replace h := h.2
      refine fr_iast C hP hS (by omega) (fun u => (fG_60 adr cs u)) h.1 dX5_loadOwn_29 (fun H locs hP hS => ?_)
      obtain ⟨t1, et1⟩ : ∃ y : fcS, y = fsa t 60 (Int32.toNatClampNeg (((16 * v1) + v3))) ((fga t 59 (Int32.toNatClampNeg (((16 * v2) + v3))))) := ⟨_, rfl⟩
      rw [← et1] at hP
      replace h := h.2 t1 et1
      obtain ⟨x2, ex2⟩ : ∃ y : Int32, y = v3 + 1 := ⟨_, rfl⟩
      replace h := h x2 ex2
      refine lv_iinc (v := x2) (lv' := [(3, .int x2), (0, .ref (adr 53)), (1, .int v1), (2, .int v2)]) hx hb dX5_loadOwn_30 hl (k := 3) rfl (by rw [ex2]; rfl) (by decide) rfl (fun ls hl => ?_)
      refine lv_goto (tgt := 2) hx hb dX5_loadOwn_33 (by decide) ?_
      exact ih v1 v2 x2 t1 _ _ _ h hP hS (lv_sub hl [1, 2, 3, 0] rfl)

set_option maxHeartbeats 4000000 in
set_option maxRecDepth 100000 in
theorem c_X5_loadOwn (l : Launch) (D : va_G) (adr : Nat → Nat) (cs : Nat → ClassId) {N : Nat} (hN : 67 ≤ N) (t : fcS) (a0 : Int32) (a1 : Int32) (post : fcS → Prop) (h : q_X5_loadOwn t a0 a1 post) : Met l yX5_loadOwn wm_X5_loadOwn ({ frames := 0, cells := 0, slots := 0, locals := 0 } : Room) (fcPre D adr cs N t [.ref (adr 53), .int a0, .int a1]) (fQv D adr cs N post) 0 0 (faN adr N) := by
  refine f_enter (cc := cX5_loadOwn) (nL := 4) (ret := none) (lv := [(0, .ref (adr 53)), (1, .int a0), (2, .int a1)]) (own := RX5) (by decide) rfl (Nat.le_of_ble_eq_true rfl) rfl rfl ?_
  intro p e s m below meth c ls C hP hS hl
  have hx := C.1.1
  have hb := C.1.2.1
  unfold q_X5_loadOwn at h
  refine lv_iconst (v := 0) hx hb dX5_loadOwn_0 (by decide) ?_
  refine lv_istore_n (lv' := [(3, .int 0), (0, .ref (adr 53)), (1, .int a0), (2, .int a1)]) hx hb dX5_loadOwn_1 rfl hl (by decide) rfl (fun ls hl => ?_)
  obtain ⟨n9, h⟩ := h
  exact k_X5_loadOwn_2 hN C n9 a0 a1 0 t _ _ _ h hP hS (lv_sub hl [1, 2, 3, 0] rfl)

/-! X5.isDegree -/
abbrev wm_X5_isDegree : List Cond := Cond.code yX5_isDegree cX5_isDegree 6 (some .boolean) :: wsL_law
def q_X5_isDegree_5 (post : Int32 → fcS → Prop) : Nat → Int32 → Int32 → Int64 → Int32 → fcS → Prop
  | 0, _, _, _, _, _ => False
  | n + 1, v1, v2, v3, v5, t => (v2 ≤ v5 → (((lg_cmp ((Int32.toInt64 v1)) v3) < 0 → (post 0 t)) ∧ (¬ (lg_cmp ((Int32.toInt64 v1)) v3) < 0 → ((0 ≤ (lg_cmp ((Int32.toInt64 v1)) ((v3 * (Int32.toInt64 ((fgi t 53 1)))))) → (post 0 t)) ∧ (¬ 0 ≤ (lg_cmp ((Int32.toInt64 v1)) ((v3 * (Int32.toInt64 ((fgi t 53 1)))))) → (post 1 t)))))) ∧ (¬ v2 ≤ v5 → (∀ x1 : Int64, x1 = (v3 * (Int32.toInt64 ((fgi t 53 1)))) → (∀ x2 : Int32, x2 = v5 + 1 → (q_X5_isDegree_5 post n v1 v2 x1 x2 t))))
def q_X5_isDegree (t : fcS) (a0 : Int32) (a1 : Int32) (post : Int32 → fcS → Prop) : Prop := ∃ n0, q_X5_isDegree_5 post n0 a0 a1 1 0 t
set_option maxHeartbeats 4000000 in
set_option maxRecDepth 100000 in
theorem k_X5_isDegree_5 {D : va_G} {adr : Nat → Nat} {cs : Nat → ClassId} {N : Nat} (hN : 67 ≤ N) {p : Program} {l : Launch} {e : Env} {s : State} {m : MethodId} {args : Array Value} {below : List Frame} {meth : Method} {c : Code} (C : fCx D adr cs N p s m args meth c cX5_isDegree 6 (some .boolean) RX5 wm_X5_isDegree) {post : Int32 → fcS → Prop} : ∀ (n : Nat) (v1 : Int32) (v2 : Int32) (v3 : Int64) (v5 : Int32) (t : fcS) (H : Heap) (locs : List Loc) (ls : Array Slot), q_X5_isDegree_5 post n v1 v2 v3 v5 t → va_P D vwCl (fwl adr N (fG adr cs t)) H → va_S (faN adr N) s.heap H locs → lv_has ls 6 [(0, .ref (adr 53)), (1, .int v1), (2, .int v2), (3, .long v3), (5, .int v5)] → W p l e ({ frames := 0, cells := 0, slots := 0, locals := 0 } : Room) s m args below meth c H locs 0 0 (MQ below (fQi D adr cs N post) args s 0 0 (faN adr N)) (F0 m 5 ls []) := by
  have hx := C.1.1
  have hb := C.1.2.1
  intro n
  induction n with
  | zero => intro v1 v2 v3 v5 t H locs ls h; exact False.elim h
  | succ n ih =>
    intro v1 v2 v3 v5 t H locs ls h hP hS hl
    unfold q_X5_isDegree_5 at h
    refine lv_iload hx hb dX5_isDegree_5 (lv_at hl 4 rfl) ?_
    refine lv_iload_n hx hb dX5_isDegree_7 rfl (lv_at hl 2 rfl) ?_
    refine lv_icmp_ge (tgt := 25) hx hb dX5_isDegree_8 (by decide) (fun c9 => ?_) (fun c9 => ?_)
    · replace h := h.1 c9
      refine lv_iload_n hx hb dX5_isDegree_25 rfl (lv_at hl 1 rfl) ?_
      refine lv_i2l hx hb dX5_isDegree_26 rfl ?_
      refine lv_lload_n hx hb dX5_isDegree_27 rfl (lv_at hl 3 rfl) ?_
      refine W.lcmp hx hb dX5_isDegree_28 ?_
      refine lv_if_lt (tgt := 49) hx hb dX5_isDegree_29 (by decide) (fun c9 => ?_) (fun c9 => ?_)
      · replace h := h.1 c9
        refine lv_iconst (v := 0) hx hb dX5_isDegree_49 (by decide) ?_
        exact fr_zret C hP hS rfl h dX5_isDegree_50
      · replace h := h.2 c9
        refine lv_iload_n hx hb dX5_isDegree_32 rfl (lv_at hl 1 rfl) ?_
        refine lv_i2l hx hb dX5_isDegree_33 rfl ?_
        refine lv_lload_n hx hb dX5_isDegree_34 rfl (lv_at hl 3 rfl) ?_
        refine lv_aload_n hx hb dX5_isDegree_35 rfl (lv_at hl 0 rfl) ?_
        refine fr_get (j := 1) C hP (by omega) (fG_MO adr cs t) rfl (fun w h => List.mem_cons_of_mem _ (inl_X5 w h)) (by decide) rfl (List.mem_cons_of_mem _ mw_7_5) rfl dX5_isDegree_36 ?_
        refine lv_i2l hx hb dX5_isDegree_39 rfl ?_
        refine lv_lmul hx hb dX5_isDegree_40 ?_
        refine W.lcmp hx hb dX5_isDegree_41 ?_
        refine lv_if_ge (tgt := 49) hx hb dX5_isDegree_42 (by decide) (fun c9 => ?_) (fun c9 => ?_)
        · replace h := h.1 c9
          refine lv_iconst (v := 0) hx hb dX5_isDegree_49 (by decide) ?_
          exact fr_zret C hP hS rfl h dX5_isDegree_50
        · replace h := h.2 c9
          refine lv_iconst (v := 1) hx hb dX5_isDegree_45 (by decide) ?_
          refine lv_goto (tgt := 50) hx hb dX5_isDegree_46 (by decide) ?_
          exact fr_zret C hP hS rfl h dX5_isDegree_50
    · replace h := h.2 c9
      refine lv_lload_n hx hb dX5_isDegree_11 rfl (lv_at hl 3 rfl) ?_
      refine lv_aload_n hx hb dX5_isDegree_12 rfl (lv_at hl 0 rfl) ?_
      refine fr_get (j := 1) C hP (by omega) (fG_MO adr cs t) rfl (fun w h => List.mem_cons_of_mem _ (inl_X5 w h)) (by decide) rfl (List.mem_cons_of_mem _ mw_7_5) rfl dX5_isDegree_13 ?_
      refine lv_i2l hx hb dX5_isDegree_16 rfl ?_
      refine lv_lmul hx hb dX5_isDegree_17 ?_
      refine lv_topl (fun x1 ex1 => ?_)
      replace h := h x1 ex1
      refine lv_lstore_n (lv' := [(3, .long x1), (0, .ref (adr 53)), (1, .int v1), (2, .int v2), (5, .int v5)]) hx hb dX5_isDegree_18 rfl hl (by decide) rfl (fun ls hl => ?_)
      obtain ⟨x2, ex2⟩ : ∃ y : Int32, y = v5 + 1 := ⟨_, rfl⟩
      replace h := h x2 ex2
      refine lv_iinc (v := x2) (lv' := [(5, .int x2), (3, .long x1), (0, .ref (adr 53)), (1, .int v1), (2, .int v2)]) hx hb dX5_isDegree_19 hl (k := 4) rfl (by rw [ex2]; rfl) (by decide) rfl (fun ls hl => ?_)
      refine lv_goto (tgt := 5) hx hb dX5_isDegree_22 (by decide) ?_
      exact ih v1 v2 x1 x2 t _ _ _ h hP hS (lv_sub hl [2, 3, 4, 1, 0] rfl)

set_option maxHeartbeats 4000000 in
set_option maxRecDepth 100000 in
theorem c_X5_isDegree (l : Launch) (D : va_G) (adr : Nat → Nat) (cs : Nat → ClassId) {N : Nat} (hN : 67 ≤ N) (t : fcS) (a0 : Int32) (a1 : Int32) (post : Int32 → fcS → Prop) (h : q_X5_isDegree t a0 a1 post) : Met l yX5_isDegree wm_X5_isDegree ({ frames := 0, cells := 0, slots := 0, locals := 0 } : Room) (fcPre D adr cs N t [.ref (adr 53), .int a0, .int a1]) (fQi D adr cs N post) 0 0 (faN adr N) := by
  refine f_enter (cc := cX5_isDegree) (nL := 6) (ret := some .boolean) (lv := [(0, .ref (adr 53)), (1, .int a0), (2, .int a1)]) (own := RX5) (by decide) rfl (Nat.le_of_ble_eq_true rfl) rfl rfl ?_
  intro p e s m below meth c ls C hP hS hl
  have hx := C.1.1
  have hb := C.1.2.1
  unfold q_X5_isDegree at h
  refine lv_lconst (v := 1) hx hb dX5_isDegree_0 (by decide) ?_
  refine lv_lstore_n (lv' := [(3, .long 1), (0, .ref (adr 53)), (1, .int a0), (2, .int a1)]) hx hb dX5_isDegree_1 rfl hl (by decide) rfl (fun ls hl => ?_)
  refine lv_iconst (v := 0) hx hb dX5_isDegree_2 (by decide) ?_
  refine lv_istore (lv' := [(5, .int 0), (3, .long 1), (0, .ref (adr 53)), (1, .int a0), (2, .int a1)]) hx hb dX5_isDegree_3 hl (by decide) rfl (fun ls hl => ?_)
  obtain ⟨n9, h⟩ := h
  exact k_X5_isDegree_5 hN C n9 a0 a1 1 0 t _ _ _ h hP hS (lv_sub hl [2, 3, 4, 1, 0] rfl)

/-! X5.isShaped -/
abbrev wm_X5_isShaped : List Cond := Cond.code yX5_isShaped cX5_isShaped 2 (some .boolean) :: wsL_law
def q_X5_isShaped (t : fcS) (a0 : Int32) (post : Int32 → fcS → Prop) : Prop := q_X5_isDegree t a0 3 (fun (r2 : Int32) (t1 : fcS) => (¬ r2 = 0 → (post 1 t1)) ∧ (r2 = 0 → (q_X5_isDegree t1 a0 4 (fun (r4 : Int32) (t3 : fcS) => (¬ r4 = 0 → (post 1 t3)) ∧ (r4 = 0 → (q_X5_isDegree t3 a0 5 (fun (r6 : Int32) (t5 : fcS) => (¬ r6 = 0 → (post 1 t5)) ∧ (r6 = 0 → (q_X5_isDegree t5 a0 6 (fun (r8 : Int32) (t7 : fcS) => (r8 = 0 → (post 0 t7)) ∧ (¬ r8 = 0 → (post 1 t7))))))))))))
set_option maxHeartbeats 4000000 in
set_option maxRecDepth 100000 in
theorem c_X5_isShaped (l : Launch) (D : va_G) (adr : Nat → Nat) (cs : Nat → ClassId) {N : Nat} (hN : 67 ≤ N) (t : fcS) (a0 : Int32) (post : Int32 → fcS → Prop) (h : q_X5_isShaped t a0 post) : Met l yX5_isShaped wm_X5_isShaped ({ frames := 1, cells := 0, slots := 0, locals := 25 } : Room) (fcPre D adr cs N t [.ref (adr 53), .int a0]) (fQi D adr cs N post) 0 0 (faN adr N) := by
  refine f_enter (cc := cX5_isShaped) (nL := 2) (ret := some .boolean) (lv := [(0, .ref (adr 53)), (1, .int a0)]) (own := RX5) (by decide) rfl (Nat.le_of_ble_eq_true rfl) rfl rfl ?_
  intro p e s m below meth c ls C hP hS hl
  have hx := C.1.1
  have hb := C.1.2.1
  unfold q_X5_isShaped at h
  refine lv_aload_n hx hb dX5_isShaped_0 rfl (lv_at hl 0 rfl) ?_
  refine lv_iload_n hx hb dX5_isShaped_1 rfl (lv_at hl 1 rfl) ?_
  refine lv_iconst (v := 3) hx hb dX5_isShaped_2 (by decide) ?_
  refine fr_ci (fr_runV (n := 2) (rest := []) C (c_X5_isDegree l D adr cs hN t a0 3 _ h) hP hS (by omega) (fG_MO adr cs t) rfl (fgV mw_18_6 mw_18_7 mw_18_8 mw_1_5 mw_18_9) rfl rfl rfl (by decide +kernel) ⟨Nat.le_of_ble_eq_true rfl, Nat.le_of_ble_eq_true rfl⟩ rfl hl.1 rfl (Nat.le_of_ble_eq_true rfl) dX5_isShaped_3) hS (fun r2 t1 H locs h hP hS => ?_)
  refine lv_if_ne (tgt := 37) hx hb dX5_isShaped_6 (by decide) (fun c9 => ?_) (fun c9 => ?_)
  · replace h := h.1 c9
    refine lv_iconst (v := 1) hx hb dX5_isShaped_37 (by decide) ?_
    refine lv_goto (tgt := 42) hx hb dX5_isShaped_38 (by decide) ?_
    exact fr_zret C hP hS rfl h dX5_isShaped_42
  · replace h := h.2 c9
    refine lv_aload_n hx hb dX5_isShaped_9 rfl (lv_at hl 0 rfl) ?_
    refine lv_iload_n hx hb dX5_isShaped_10 rfl (lv_at hl 1 rfl) ?_
    refine lv_iconst (v := 4) hx hb dX5_isShaped_11 (by decide) ?_
    refine fr_ci (fr_runV (n := 2) (rest := []) C (c_X5_isDegree l D adr cs hN t1 a0 4 _ h) hP hS (by omega) (fG_MO adr cs t1) rfl (fgV mw_18_6 mw_18_7 mw_18_8 mw_1_5 mw_18_9) rfl rfl rfl (by decide +kernel) ⟨Nat.le_of_ble_eq_true rfl, Nat.le_of_ble_eq_true rfl⟩ rfl hl.1 rfl (Nat.le_of_ble_eq_true rfl) dX5_isShaped_12) hS (fun r4 t3 H locs h hP hS => ?_)
    refine lv_if_ne (tgt := 37) hx hb dX5_isShaped_15 (by decide) (fun c9 => ?_) (fun c9 => ?_)
    · replace h := h.1 c9
      refine lv_iconst (v := 1) hx hb dX5_isShaped_37 (by decide) ?_
      refine lv_goto (tgt := 42) hx hb dX5_isShaped_38 (by decide) ?_
      exact fr_zret C hP hS rfl h dX5_isShaped_42
    · replace h := h.2 c9
      refine lv_aload_n hx hb dX5_isShaped_18 rfl (lv_at hl 0 rfl) ?_
      refine lv_iload_n hx hb dX5_isShaped_19 rfl (lv_at hl 1 rfl) ?_
      refine lv_iconst (v := 5) hx hb dX5_isShaped_20 (by decide) ?_
      refine fr_ci (fr_runV (n := 2) (rest := []) C (c_X5_isDegree l D adr cs hN t3 a0 5 _ h) hP hS (by omega) (fG_MO adr cs t3) rfl (fgV mw_18_6 mw_18_7 mw_18_8 mw_1_5 mw_18_9) rfl rfl rfl (by decide +kernel) ⟨Nat.le_of_ble_eq_true rfl, Nat.le_of_ble_eq_true rfl⟩ rfl hl.1 rfl (Nat.le_of_ble_eq_true rfl) dX5_isShaped_21) hS (fun r6 t5 H locs h hP hS => ?_)
      refine lv_if_ne (tgt := 37) hx hb dX5_isShaped_24 (by decide) (fun c9 => ?_) (fun c9 => ?_)
      · replace h := h.1 c9
        refine lv_iconst (v := 1) hx hb dX5_isShaped_37 (by decide) ?_
        refine lv_goto (tgt := 42) hx hb dX5_isShaped_38 (by decide) ?_
        exact fr_zret C hP hS rfl h dX5_isShaped_42
      · replace h := h.2 c9
        refine lv_aload_n hx hb dX5_isShaped_27 rfl (lv_at hl 0 rfl) ?_
        refine lv_iload_n hx hb dX5_isShaped_28 rfl (lv_at hl 1 rfl) ?_
        refine lv_bipush (v := 6) hx hb dX5_isShaped_29 (by decide) ?_
        refine fr_ci (fr_runV (n := 2) (rest := []) C (c_X5_isDegree l D adr cs hN t5 a0 6 _ h) hP hS (by omega) (fG_MO adr cs t5) rfl (fgV mw_18_6 mw_18_7 mw_18_8 mw_1_5 mw_18_9) rfl rfl rfl (by decide +kernel) ⟨Nat.le_of_ble_eq_true rfl, Nat.le_of_ble_eq_true rfl⟩ rfl hl.1 rfl (Nat.le_of_ble_eq_true rfl) dX5_isShaped_31) hS (fun r8 t7 H locs h hP hS => ?_)
        refine lv_if_eq (tgt := 41) hx hb dX5_isShaped_34 (by decide) (fun c9 => ?_) (fun c9 => ?_)
        · replace h := h.1 c9
          refine lv_iconst (v := 0) hx hb dX5_isShaped_41 (by decide) ?_
          exact fr_zret C hP hS rfl h dX5_isShaped_42
        · replace h := h.2 c9
          refine lv_iconst (v := 1) hx hb dX5_isShaped_37 (by decide) ?_
          refine lv_goto (tgt := 42) hx hb dX5_isShaped_38 (by decide) ?_
          exact fr_zret C hP hS rfl h dX5_isShaped_42

/-! X5.knotOf -/
abbrev wm_X5_knotOf : List Cond := Cond.code yX5_knotOf cX5_knotOf 3 (some .int) :: wsL_law
def q_X5_knotOf_15 (post : Int32 → fcS → Prop) : Nat → Int32 → fcS → Prop
  | 0, _, _ => False
  | n + 1, v2, t => (16 ≤ v2 → (q_X5_common t 12 13 14 10 11 (fun (t3 : fcS) => q_X5_degree t3 12 (fun (r5 : Int32) (t4 : fcS) => post r5 t4)))) ∧ (¬ 16 ≤ v2 → ((vp_in ((160 + v2)) 640) ∧ (q_X5_left t ((v2 * (fga t 60 (Int32.toNatClampNeg ((160 + v2)))))) (fun (r7 : Int32) (t6 : fcS) => (vp_in (((176 + v2) - 1)) 640) ∧ (∀ t8 : fcS, t8 = fsa t6 60 (Int32.toNatClampNeg (((176 + v2) - 1))) r7 → (∀ x9 : Int32, x9 = v2 + 1 → (q_X5_knotOf_15 post n x9 t8)))))))
def q_X5_knotOf (t : fcS) (a0 : Int32) (post : Int32 → fcS → Prop) : Prop := q_X5_load t 10 a0 (fun (t1 : fcS) => q_X5_clear t1 11 (fun (t2 : fcS) => ∃ n0, q_X5_knotOf_15 post n0 1 t2))
set_option maxHeartbeats 4000000 in
set_option maxRecDepth 100000 in
theorem k_X5_knotOf_15 {D : va_G} {adr : Nat → Nat} {cs : Nat → ClassId} {N : Nat} (hN : 67 ≤ N) {p : Program} {l : Launch} {e : Env} {s : State} {m : MethodId} {args : Array Value} {below : List Frame} {meth : Method} {c : Code} (C : fCx D adr cs N p s m args meth c cX5_knotOf 3 (some .int) RX5 wm_X5_knotOf) {post : Int32 → fcS → Prop} : ∀ (n : Nat) (v2 : Int32) (t : fcS) (H : Heap) (locs : List Loc) (ls : Array Slot), q_X5_knotOf_15 post n v2 t → va_P D vwCl (fwl adr N (fG adr cs t)) H → va_S (faN adr N) s.heap H locs → lv_has ls 3 [(0, .ref (adr 53)), (2, .int v2)] → W p l e ({ frames := 3, cells := 0, slots := 0, locals := 78 } : Room) s m args below meth c H locs 0 0 (MQ below (fQi D adr cs N post) args s 0 0 (faN adr N)) (F0 m 15 ls []) := by
  have hx := C.1.1
  have hb := C.1.2.1
  intro n
  induction n with
  | zero => intro v2 t H locs ls h; exact False.elim h
  | succ n ih =>
    intro v2 t H locs ls h hP hS hl
    unfold q_X5_knotOf_15 at h
    refine lv_iload_n hx hb dX5_knotOf_15 rfl (lv_at hl 1 rfl) ?_
    refine lv_bipush (v := 16) hx hb dX5_knotOf_16 (by decide) ?_
    refine lv_icmp_ge (tgt := 55) hx hb dX5_knotOf_18 (by decide) (fun c9 => ?_) (fun c9 => ?_)
    · replace h := h.1 c9
      refine lv_aload_n hx hb dX5_knotOf_55 rfl (lv_at hl 0 rfl) ?_
      refine lv_bipush (v := 12) hx hb dX5_knotOf_56 (by decide) ?_
      refine lv_bipush (v := 13) hx hb dX5_knotOf_58 (by decide) ?_
      refine lv_bipush (v := 14) hx hb dX5_knotOf_60 (by decide) ?_
      refine lv_bipush (v := 10) hx hb dX5_knotOf_62 (by decide) ?_
      refine lv_bipush (v := 11) hx hb dX5_knotOf_64 (by decide) ?_
      refine fr_cv (fr_runV (n := 5) (rest := []) C (c_X5_common l D adr cs hN t 12 13 14 10 11 _ h) hP hS (by omega) (fG_MO adr cs t) rfl (fgV mw_18_14 mw_18_15 mw_18_16 mw_1_5 mw_18_17) rfl rfl rfl (by decide +kernel) ⟨Nat.le_of_ble_eq_true rfl, Nat.le_of_ble_eq_true rfl⟩ rfl hl.1 rfl (Nat.le_of_ble_eq_true rfl) dX5_knotOf_66) hS (fun t3 H locs h hP hS => ?_)
      refine lv_aload_n hx hb dX5_knotOf_69 rfl (lv_at hl 0 rfl) ?_
      refine lv_bipush (v := 12) hx hb dX5_knotOf_70 (by decide) ?_
      refine fr_ci (fr_runV (n := 1) (rest := []) C (c_X5_degree l D adr cs hN t3 12 _ h) hP hS (by omega) (fG_MO adr cs t3) rfl (fgV mw_9_1 mw_9_2 mw_9_3 mw_1_5 mw_9_4) rfl rfl rfl (by decide +kernel) ⟨Nat.le_of_ble_eq_true rfl, Nat.le_of_ble_eq_true rfl⟩ rfl hl.1 rfl (Nat.le_of_ble_eq_true rfl) dX5_knotOf_72) hS (fun r5 t4 H locs h hP hS => ?_)
      exact fr_iret C hP hS h dX5_knotOf_75
    · replace h := h.2 c9
      refine lv_aload_n hx hb dX5_knotOf_21 rfl (lv_at hl 0 rfl) ?_
      refine fr_get (j := 13) C hP (by omega) (fG_MO adr cs t) rfl (fun w h => List.mem_cons_of_mem _ (inl_X5 w h)) (by decide) rfl (List.mem_cons_of_mem _ mw_7_14) rfl dX5_knotOf_22 ?_
      refine lv_sipush (v := 176) hx hb dX5_knotOf_25 (by decide) ?_
      refine lv_iload_n hx hb dX5_knotOf_28 rfl (lv_at hl 1 rfl) ?_
      refine lv_iadd hx hb dX5_knotOf_29 ?_
      refine lv_iconst (v := 1) hx hb dX5_knotOf_30 (by decide) ?_
      refine lv_isub hx hb dX5_knotOf_31 ?_
      refine lv_aload_n hx hb dX5_knotOf_32 rfl (lv_at hl 0 rfl) ?_
      refine lv_iload_n hx hb dX5_knotOf_33 rfl (lv_at hl 1 rfl) ?_
      refine lv_aload_n hx hb dX5_knotOf_34 rfl (lv_at hl 0 rfl) ?_
      refine fr_get (j := 13) C hP (by omega) (fG_MO adr cs t) rfl (fun w h => List.mem_cons_of_mem _ (inl_X5 w h)) (by decide) rfl (List.mem_cons_of_mem _ mw_7_14) rfl dX5_knotOf_35 ?_
      refine lv_sipush (v := 160) hx hb dX5_knotOf_38 (by decide) ?_
      refine lv_iload_n hx hb dX5_knotOf_41 rfl (lv_at hl 1 rfl) ?_
      refine lv_iadd hx hb dX5_knotOf_42 ?_
      refine fr_iald C hP (by omega) (fG_60 adr cs t) h.1 dX5_knotOf_43 ?_
      replace h := h.2
      refine lv_imul hx hb dX5_knotOf_44 ?_
      refine fr_ci (fr_runV (n := 1) (rest := [.int (((176 + v2) - 1)), .ref (adr 60)]) C (c_X5_left l D adr cs hN t ((v2 * (fga t 60 (Int32.toNatClampNeg ((160 + v2)))))) _ h) hP hS (by omega) (fG_MO adr cs t) rfl (fgV mw_9_9 mw_9_10 mw_9_11 mw_1_5 mw_9_12) rfl rfl rfl (by decide +kernel) ⟨Nat.le_of_ble_eq_true rfl, Nat.le_of_ble_eq_true rfl⟩ rfl hl.1 rfl (Nat.le_of_ble_eq_true rfl) dX5_knotOf_45) hS (fun r7 t6 H locs h hP hS => ?_)
      refine fr_iast C hP hS (by omega) (fun u => (fG_60 adr cs u)) h.1 dX5_knotOf_48 (fun H locs hP hS => ?_)
      obtain ⟨t8, et8⟩ : ∃ y : fcS, y = fsa t6 60 (Int32.toNatClampNeg (((176 + v2) - 1))) r7 := ⟨_, rfl⟩
      rw [← et8] at hP
      replace h := h.2 t8 et8
      obtain ⟨x9, ex9⟩ : ∃ y : Int32, y = v2 + 1 := ⟨_, rfl⟩
      replace h := h x9 ex9
      refine lv_iinc (v := x9) (lv' := [(2, .int x9), (0, .ref (adr 53))]) hx hb dX5_knotOf_49 hl (k := 1) rfl (by rw [ex9]; rfl) (by decide) rfl (fun ls hl => ?_)
      refine lv_goto (tgt := 15) hx hb dX5_knotOf_52 (by decide) ?_
      exact ih x9 t8 _ _ _ h hP hS (lv_sub hl [1, 0] rfl)

set_option maxHeartbeats 4000000 in
set_option maxRecDepth 100000 in
theorem c_X5_knotOf (l : Launch) (D : va_G) (adr : Nat → Nat) (cs : Nat → ClassId) {N : Nat} (hN : 67 ≤ N) (t : fcS) (a0 : Int32) (post : Int32 → fcS → Prop) (h : q_X5_knotOf t a0 post) : Met l yX5_knotOf wm_X5_knotOf ({ frames := 3, cells := 0, slots := 0, locals := 78 } : Room) (fcPre D adr cs N t [.ref (adr 53), .int a0]) (fQi D adr cs N post) 0 0 (faN adr N) := by
  refine f_enter (cc := cX5_knotOf) (nL := 3) (ret := some .int) (lv := [(0, .ref (adr 53)), (1, .int a0)]) (own := RX5) (by decide) rfl (Nat.le_of_ble_eq_true rfl) rfl rfl ?_
  intro p e s m below meth c ls C hP hS hl
  have hx := C.1.1
  have hb := C.1.2.1
  unfold q_X5_knotOf at h
  refine lv_aload_n hx hb dX5_knotOf_0 rfl (lv_at hl 0 rfl) ?_
  refine lv_bipush (v := 10) hx hb dX5_knotOf_1 (by decide) ?_
  refine lv_iload_n hx hb dX5_knotOf_3 rfl (lv_at hl 1 rfl) ?_
  refine fr_cv (fr_runV (n := 2) (rest := []) C (c_X5_load l D adr cs hN t 10 a0 _ h) hP hS (by omega) (fG_MO adr cs t) rfl (fgV mw_8_9 mw_8_10 mw_8_11 mw_1_5 mw_8_12) rfl rfl rfl (by decide +kernel) ⟨Nat.le_of_ble_eq_true rfl, Nat.le_of_ble_eq_true rfl⟩ rfl hl.1 rfl (Nat.le_of_ble_eq_true rfl) dX5_knotOf_4) hS (fun t1 H locs h hP hS => ?_)
  refine lv_aload_n hx hb dX5_knotOf_7 rfl (lv_at hl 0 rfl) ?_
  refine lv_bipush (v := 11) hx hb dX5_knotOf_8 (by decide) ?_
  refine fr_cv (fr_runV (n := 1) (rest := []) C (c_X5_clear l D adr cs hN t1 11 _ h) hP hS (by omega) (fG_MO adr cs t1) rfl (fgV mw_8_17 mw_8_18 mw_8_19 mw_1_5 mw_8_20) rfl rfl rfl (by decide +kernel) ⟨Nat.le_of_ble_eq_true rfl, Nat.le_of_ble_eq_true rfl⟩ rfl hl.1 rfl (Nat.le_of_ble_eq_true rfl) dX5_knotOf_10) hS (fun t2 H locs h hP hS => ?_)
  refine lv_iconst (v := 1) hx hb dX5_knotOf_13 (by decide) ?_
  refine lv_istore_n (lv' := [(2, .int 1), (0, .ref (adr 53)), (1, .int a0)]) hx hb dX5_knotOf_14 rfl hl (by decide) rfl (fun ls hl => ?_)
  obtain ⟨n9, h⟩ := h
  exact k_X5_knotOf_15 hN C n9 1 t2 _ _ _ h hP hS (lv_sub hl [1, 0] rfl)

