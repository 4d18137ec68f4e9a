/-! X0.begin -/
abbrev wm_X0_begin : List Cond := Cond.code yX0_begin cX0_begin 3 none :: wsL_law
def q_X0_begin (t : fcS) (k : Nat) (a0 : Int32) (a1 : Int32) (post : fcS → Prop) : Prop := ∀ t1 : fcS, t1 = fsi t k 2 a0 → (∀ t2 : fcS, t2 = fsi t1 k 3 a1 → (∀ t3 : fcS, t3 = fsi t2 k 4 0 → (post t3)))
set_option maxHeartbeats 4000000 in
set_option maxRecDepth 100000 in
theorem c_X0_begin (l : Launch) (D : va_G) (adr : Nat → Nat) (cs : Nat → ClassId) {N : Nat} (hN : 53 ≤ N) (t : fcS) (k : Nat) (hk : fisL k) (a0 : Int32) (a1 : Int32) (post : fcS → Prop) (h : q_X0_begin t k a0 a1 post) : Met l yX0_begin wm_X0_begin ({ frames := 0, cells := 0, slots := 0, locals := 0 } : Room) (fcPre D adr cs N t [.ref (adr k), .int a0, .int a1]) (fQv D adr cs N post) 0 0 (faN adr N) := by
  refine f_enter (cc := cX0_begin) (nL := 3) (ret := none) (lv := [(0, .ref (adr k)), (1, .int a0), (2, .int a1)]) (own := RX0) (by decide) rfl (Nat.le_of_ble_eq_true rfl) rfl rfl ?_
  intro p e s m below meth c ls C hP hS hl
  have hx := C.1.1
  have hb := C.1.2.1
  unfold q_X0_begin at h
  refine lv_aload_n hx hb dX0_begin_0 rfl (lv_at hl 0 rfl) ?_
  refine lv_iload_n hx hb dX0_begin_1 rfl (lv_at hl 1 rfl) ?_
  refine fr_put C (fsi t k 2 a0) (j := 2) (ty := .int) hP hS (by have := hk.2.1; omega) (fG_CL adr cs t hk) rfl (fun w h => List.mem_cons_of_mem _ (inl_X0 w h)) tyX0_ok nmX0 (by decide) rfl (List.mem_cons_of_mem _ mw_17_19) rfl (by decide +kernel) rfl rfl (Nat.le_of_ble_eq_true rfl) (fS_CL_2 adr cs t hk a0) (fG_fsi_ne adr cs t k 2 a0) dX0_begin_2 (fun H locs hP hS => ?_)
  obtain ⟨t1, et1⟩ : ∃ y : fcS, y = fsi t k 2 a0 := ⟨_, rfl⟩
  rw [← et1] at hP
  replace h := h t1 et1
  refine lv_aload_n hx hb dX0_begin_5 rfl (lv_at hl 0 rfl) ?_
  refine lv_iload_n hx hb dX0_begin_6 rfl (lv_at hl 2 rfl) ?_
  refine fr_put C (fsi t1 k 3 a1) (j := 3) (ty := .int) hP hS (by have := hk.2.1; omega) (fG_CL adr cs t1 hk) rfl (fun w h => List.mem_cons_of_mem _ (inl_X0 w h)) tyX0_ok nmX0 (by decide) rfl (List.mem_cons_of_mem _ mw_3_12) rfl (by decide +kernel) rfl rfl (Nat.le_of_ble_eq_true rfl) (fS_CL_3 adr cs t1 hk a1) (fG_fsi_ne adr cs t1 k 3 a1) dX0_begin_7 (fun H locs hP hS => ?_)
  obtain ⟨t2, et2⟩ : ∃ y : fcS, y = fsi t1 k 3 a1 := ⟨_, rfl⟩
  rw [← et2] at hP
  replace h := h t2 et2
  refine lv_aload_n hx hb dX0_begin_10 rfl (lv_at hl 0 rfl) ?_
  refine lv_iconst (v := 0) hx hb dX0_begin_11 (by decide) ?_
  refine fr_put C (fsi t2 k 4 0) (j := 4) (ty := .int) hP hS (by have := hk.2.1; omega) (fG_CL adr cs t2 hk) rfl (fun w h => List.mem_cons_of_mem _ (inl_X0 w h)) tyX0_ok nmX0 (by decide) rfl (List.mem_cons_of_mem _ mw_17_20) rfl (by decide +kernel) rfl rfl (Nat.le_of_ble_eq_true rfl) (fS_CL_4 adr cs t2 hk 0) (fG_fsi_ne adr cs t2 k 4 0) dX0_begin_12 (fun H locs hP hS => ?_)
  obtain ⟨t3, et3⟩ : ∃ y : fcS, y = fsi t2 k 4 0 := ⟨_, rfl⟩
  rw [← et3] at hP
  replace h := h t3 et3
  exact fr_vret C hP hS h dX0_begin_15

/-! X0.holds -/
abbrev wm_X0_holds : List Cond := Cond.code yX0_holds cX0_holds 5 (some .boolean) :: wsL_law
def q_X0_holds_2 (k : Nat) (post : Int32 → fcS → Prop) : Nat → Int32 → Int32 → Int32 → fcS → Prop
  | 0, _, _, _, _ => False
  | n + 1, v1, v2, v3, t => ((fgi t k 3) < v3 → (post 0 t)) ∧ (¬ (fgi t k 3) < v3 → (q_X3_place t v3 (fun (r2 : Int32) (t1 : fcS) => (v1 < r2 → (∀ x3 : Int32, x3 = v3 + 1 → (q_X0_holds_2 k post n v1 v2 x3 t1))) ∧ (¬ v1 < r2 → (((2 * r2) ≤ v1 → (∀ x4 : Int32, x4 = v3 + 1 → (q_X0_holds_2 k post n v1 v2 x4 t1))) ∧ (¬ (2 * r2) ≤ v1 → ((r2 ≤ v2 → (post 0 t1)) ∧ (¬ r2 ≤ v2 → (q_X3_squareRest t1 v2 v1 (fun (r6 : Int32) (t5 : fcS) => q_X3_rest t5 ((fgi t5 k 2)) v1 (fun (r8 : Int32) (t7 : fcS) => (¬ r6 = r8 → (post 0 t7)) ∧ (r6 = r8 → (post 1 t7)))))))))))))
def q_X0_holds (t : fcS) (k : Nat) (a0 : Int32) (a1 : Int32) (post : Int32 → fcS → Prop) : Prop := ∃ n0, q_X0_holds_2 k post n0 a0 a1 0 t
set_option maxHeartbeats 4000000 in
set_option maxRecDepth 100000 in
theorem k_X0_holds_2 {D : va_G} {adr : Nat → Nat} {cs : Nat → ClassId} {N : Nat} (hN : 53 ≤ N) {p : Program} {l : Launch} {e : Env} {s : State} {m : MethodId} {args : Array Value} {below : List Frame} {meth : Method} {c : Code} (C : fCx D adr cs N p s m args meth c cX0_holds 5 (some .boolean) RX0 wm_X0_holds) (k : Nat) (hk : fisL k) {post : Int32 → fcS → Prop} : ∀ (n : Nat) (v1 : Int32) (v2 : Int32) (v3 : Int32) (t : fcS) (H : Heap) (locs : List Loc) (ls : Array Slot), q_X0_holds_2 k post n v1 v2 v3 t → va_P D vwCl (fwl adr N (fG adr cs t)) H → va_S (faN adr N) s.heap H locs → lv_has ls 5 [(0, .ref (adr k)), (1, .int v1), (2, .int v2), (3, .int v3)] → W p l e ({ frames := 2, cells := 0, slots := 0, locals := 54 } : Room) s m args below meth c H locs 0 0 (MQ below (fQi D adr cs N post) args s 0 0 (faN adr N)) (F0 m 2 ls []) := by
  have hx := C.1.1
  have hb := C.1.2.1
  intro n
  induction n with
  | zero => intro v1 v2 v3 t H locs ls h; exact False.elim h
  | succ n ih =>
    intro v1 v2 v3 t H locs ls h hP hS hl
    unfold q_X0_holds_2 at h
    refine lv_iload_n hx hb dX0_holds_2 rfl (lv_at hl 3 rfl) ?_
    refine lv_aload_n hx hb dX0_holds_3 rfl (lv_at hl 0 rfl) ?_
    refine fr_get (j := 3) C hP (by have := hk.2.1; omega) (fG_CL adr cs t hk) rfl (fun w h => List.mem_cons_of_mem _ (inl_X0 w h)) (by decide) rfl (List.mem_cons_of_mem _ mw_3_12) rfl dX0_holds_4 ?_
    refine lv_icmp_gt (tgt := 76) hx hb dX0_holds_7 (by decide) (fun c9 => ?_) (fun c9 => ?_)
    · replace h := h.1 c9
      refine lv_iconst (v := 0) hx hb dX0_holds_76 (by decide) ?_
      exact fr_zret C hP hS rfl h dX0_holds_77
    · replace h := h.2 c9
      refine lv_aload_n hx hb dX0_holds_10 rfl (lv_at hl 0 rfl) ?_
      refine fr_get (j := 0) C hP (by have := hk.2.1; omega) (fG_CL adr cs t hk) rfl (fun w h => List.mem_cons_of_mem _ (inl_X0 w h)) (by decide) rfl (List.mem_cons_of_mem _ mw_3_13) rfl dX0_holds_11 ?_
      refine lv_iload_n hx hb dX0_holds_14 rfl (lv_at hl 3 rfl) ?_
      refine fr_ci (fr_runV (n := 1) (rest := []) C (c_X3_place l D adr cs hN t v3 _ h) hP hS (by omega) (fG_PO adr cs t) rfl (fgV mw_27_4 mw_4_6 mw_4_7 mw_1_14 mw_4_8) rfl rfl rfl (by decide +kernel) ⟨Nat.le_of_ble_eq_true rfl, Nat.le_of_ble_eq_true rfl⟩ rfl hl.1 rfl (Nat.le_of_ble_eq_true rfl) dX0_holds_15) hS (fun r2 t1 H locs h hP hS => ?_)
      refine lv_istore (lv' := [(4, .int r2), (0, .ref (adr k)), (1, .int v1), (2, .int v2), (3, .int v3)]) hx hb dX0_holds_18 hl (by decide) rfl (fun ls hl => ?_)
      refine lv_iload_n hx hb dX0_holds_20 rfl (lv_at hl 2 rfl) ?_
      refine lv_iload hx hb dX0_holds_21 (lv_at hl 0 rfl) ?_
      refine lv_icmp_lt (tgt := 70) hx hb dX0_holds_23 (by decide) (fun c9 => ?_) (fun c9 => ?_)
      · replace h := h.1 c9
        obtain ⟨x3, ex3⟩ : ∃ y : Int32, y = v3 + 1 := ⟨_, rfl⟩
        replace h := h x3 ex3
        refine lv_iinc (v := x3) (lv' := [(3, .int x3), (4, .int r2), (0, .ref (adr k)), (1, .int v1), (2, .int v2)]) hx hb dX0_holds_70 hl (k := 4) rfl (by rw [ex3]; rfl) (by decide) rfl (fun ls hl => ?_)
        refine lv_goto (tgt := 2) hx hb dX0_holds_73 (by decide) ?_
        exact ih v1 v2 x3 t1 _ _ _ h hP hS (lv_sub hl [2, 3, 4, 0] rfl)
      · replace h := h.2 c9
        refine lv_iload_n hx hb dX0_holds_26 rfl (lv_at hl 2 rfl) ?_
        refine lv_iconst (v := 2) hx hb dX0_holds_27 (by decide) ?_
        refine lv_iload hx hb dX0_holds_28 (lv_at hl 0 rfl) ?_
        refine lv_imul hx hb dX0_holds_30 ?_
        refine lv_icmp_ge (tgt := 70) hx hb dX0_holds_31 (by decide) (fun c9 => ?_) (fun c9 => ?_)
        · replace h := h.1 c9
          obtain ⟨x4, ex4⟩ : ∃ y : Int32, y = v3 + 1 := ⟨_, rfl⟩
          replace h := h x4 ex4
          refine lv_iinc (v := x4) (lv' := [(3, .int x4), (4, .int r2), (0, .ref (adr k)), (1, .int v1), (2, .int v2)]) hx hb dX0_holds_70 hl (k := 4) rfl (by rw [ex4]; rfl) (by decide) rfl (fun ls hl => ?_)
          refine lv_goto (tgt := 2) hx hb dX0_holds_73 (by decide) ?_
          exact ih v1 v2 x4 t1 _ _ _ h hP hS (lv_sub hl [2, 3, 4, 0] rfl)
        · replace h := h.2 c9
          refine lv_iload_n hx hb dX0_holds_34 rfl (lv_at hl 3 rfl) ?_
          refine lv_iload hx hb dX0_holds_35 (lv_at hl 0 rfl) ?_
          refine lv_icmp_ge (tgt := 68) hx hb dX0_holds_37 (by decide) (fun c9 => ?_) (fun c9 => ?_)
          · replace h := h.1 c9
            refine lv_iconst (v := 0) hx hb dX0_holds_68 (by decide) ?_
            exact fr_zret C hP hS rfl h dX0_holds_69
          · replace h := h.2 c9
            refine lv_aload_n hx hb dX0_holds_40 rfl (lv_at hl 1 rfl) ?_
            refine fr_get (j := 0) C hP (by have := hk.2.1; omega) (fG_CL adr cs t1 hk) rfl (fun w h => List.mem_cons_of_mem _ (inl_X0 w h)) (by decide) rfl (List.mem_cons_of_mem _ mw_3_13) rfl dX0_holds_41 ?_
            refine lv_iload_n hx hb dX0_holds_44 rfl (lv_at hl 3 rfl) ?_
            refine lv_iload_n hx hb dX0_holds_45 rfl (lv_at hl 2 rfl) ?_
            refine fr_ci (fr_runV (n := 2) (rest := []) C (c_X3_squareRest l D adr cs hN t1 v2 v1 _ h) hP hS (by omega) (fG_PO adr cs t1) rfl (fgV mw_27_5 mw_27_6 mw_27_7 mw_1_14 mw_27_8) rfl rfl rfl (by decide +kernel) ⟨Nat.le_of_ble_eq_true rfl, Nat.le_of_ble_eq_true rfl⟩ rfl hl.1 rfl (Nat.le_of_ble_eq_true rfl) dX0_holds_46) hS (fun r6 t5 H locs h hP hS => ?_)
            refine lv_aload_n hx hb dX0_holds_49 rfl (lv_at hl 1 rfl) ?_
            refine fr_get (j := 0) C hP (by have := hk.2.1; omega) (fG_CL adr cs t5 hk) rfl (fun w h => List.mem_cons_of_mem _ (inl_X0 w h)) (by decide) rfl (List.mem_cons_of_mem _ mw_3_13) rfl dX0_holds_50 ?_
            refine lv_aload_n hx hb dX0_holds_53 rfl (lv_at hl 1 rfl) ?_
            refine fr_get (j := 2) C hP (by have := hk.2.1; omega) (fG_CL adr cs t5 hk) rfl (fun w h => List.mem_cons_of_mem _ (inl_X0 w h)) (by decide) rfl (List.mem_cons_of_mem _ mw_17_19) rfl dX0_holds_54 ?_
            refine lv_iload_n hx hb dX0_holds_57 rfl (lv_at hl 2 rfl) ?_
            refine fr_ci (fr_runV (n := 2) (rest := [.int r6]) C (c_X3_rest l D adr cs hN t5 ((fgi t5 k 2)) v1 _ h) hP hS (by omega) (fG_PO adr cs t5) rfl (fgV mw_27_9 mw_5_1 mw_5_2 mw_1_14 mw_5_3) rfl rfl rfl (by decide +kernel) ⟨Nat.le_of_ble_eq_true rfl, Nat.le_of_ble_eq_true rfl⟩ rfl hl.1 rfl (Nat.le_of_ble_eq_true rfl) dX0_holds_58) hS (fun r8 t7 H locs h hP hS => ?_)
            refine lv_icmp_ne (tgt := 68) hx hb dX0_holds_61 (by decide) (fun c9 => ?_) (fun c9 => ?_)
            · replace h := h.1 c9
              refine lv_iconst (v := 0) hx hb dX0_holds_68 (by decide) ?_
              exact fr_zret C hP hS rfl h dX0_holds_69
            · replace h := h.2 c9
              refine lv_iconst (v := 1) hx hb dX0_holds_64 (by decide) ?_
              refine lv_goto (tgt := 69) hx hb dX0_holds_65 (by decide) ?_
              exact fr_zret C hP hS rfl h dX0_holds_69

set_option maxHeartbeats 4000000 in
set_option maxRecDepth 100000 in
theorem c_X0_holds (l : Launch) (D : va_G) (adr : Nat → Nat) (cs : Nat → ClassId) {N : Nat} (hN : 53 ≤ N) (t : fcS) (k : Nat) (hk : fisL k) (a0 : Int32) (a1 : Int32) (post : Int32 → fcS → Prop) (h : q_X0_holds t k a0 a1 post) : Met l yX0_holds wm_X0_holds ({ frames := 2, cells := 0, slots := 0, locals := 54 } : Room) (fcPre D adr cs N t [.ref (adr k), .int a0, .int a1]) (fQi D adr cs N post) 0 0 (faN adr N) := by
  refine f_enter (cc := cX0_holds) (nL := 5) (ret := some .boolean) (lv := [(0, .ref (adr k)), (1, .int a0), (2, .int a1)]) (own := RX0) (by decide) rfl (Nat.le_of_ble_eq_true rfl) rfl rfl ?_
  intro p e s m below meth c ls C hP hS hl
  have hx := C.1.1
  have hb := C.1.2.1
  unfold q_X0_holds at h
  refine lv_iconst (v := 0) hx hb dX0_holds_0 (by decide) ?_
  refine lv_istore_n (lv' := [(3, .int 0), (0, .ref (adr k)), (1, .int a0), (2, .int a1)]) hx hb dX0_holds_1 rfl hl (by decide) rfl (fun ls hl => ?_)
  obtain ⟨n9, h⟩ := h
  exact k_X0_holds_2 hN C k hk n9 a0 a1 0 t _ _ _ h hP hS (lv_sub hl [1, 2, 3, 0] rfl)

/-! X0.keyOf -/
abbrev wm_X0_keyOf : List Cond := Cond.code yX0_keyOf cX0_keyOf 3 (some .int) :: wsL_law
def q_X0_keyOf (t : fcS) (k : Nat) (a0 : Int32) (a1 : Int32) (post : Int32 → fcS → Prop) : Prop := post ((((a0 * (fgi t 1 0)) * (fgi t 1 0)) + a1)) t
set_option maxHeartbeats 4000000 in
set_option maxRecDepth 100000 in
theorem c_X0_keyOf (l : Launch) (D : va_G) (adr : Nat → Nat) (cs : Nat → ClassId) {N : Nat} (hN : 53 ≤ N) (t : fcS) (k : Nat) (hk : fisL k) (a0 : Int32) (a1 : Int32) (post : Int32 → fcS → Prop) (h : q_X0_keyOf t k a0 a1 post) : Met l yX0_keyOf wm_X0_keyOf ({ frames := 0, cells := 0, slots := 0, locals := 0 } : Room) (fcPre D adr cs N t [.ref (adr k), .int a0, .int a1]) (fQi D adr cs N post) 0 0 (faN adr N) := by
  refine f_enter (cc := cX0_keyOf) (nL := 3) (ret := some .int) (lv := [(0, .ref (adr k)), (1, .int a0), (2, .int a1)]) (own := RX0) (by decide) rfl (Nat.le_of_ble_eq_true rfl) rfl rfl ?_
  intro p e s m below meth c ls C hP hS hl
  have hx := C.1.1
  have hb := C.1.2.1
  unfold q_X0_keyOf at h
  refine lv_iload_n hx hb dX0_keyOf_0 rfl (lv_at hl 1 rfl) ?_
  refine lv_aload_n hx hb dX0_keyOf_1 rfl (lv_at hl 0 rfl) ?_
  refine fr_get (j := 0) C hP (by have := hk.2.1; omega) (fG_CL adr cs t hk) rfl (fun w h => List.mem_cons_of_mem _ (inl_X0 w h)) (by decide) rfl (List.mem_cons_of_mem _ mw_3_13) rfl dX0_keyOf_2 ?_
  refine fr_getN (j := 0) C hP (by omega) (fG_PO adr cs t) rfl (fun w h => List.mem_cons_of_mem _ (inl_X3 w h)) (by decide) rfl (by decide +kernel) rfl dX0_keyOf_5 ?_
  refine lv_imul hx hb dX0_keyOf_8 ?_
  refine lv_aload_n hx hb dX0_keyOf_9 rfl (lv_at hl 0 rfl) ?_
  refine fr_get (j := 0) C hP (by have := hk.2.1; omega) (fG_CL adr cs t hk) rfl (fun w h => List.mem_cons_of_mem _ (inl_X0 w h)) (by decide) rfl (List.mem_cons_of_mem _ mw_3_13) rfl dX0_keyOf_10 ?_
  refine fr_getN (j := 0) C hP (by omega) (fG_PO adr cs t) rfl (fun w h => List.mem_cons_of_mem _ (inl_X3 w h)) (by decide) rfl (by decide +kernel) rfl dX0_keyOf_13 ?_
  refine lv_imul hx hb dX0_keyOf_16 ?_
  refine lv_iload_n hx hb dX0_keyOf_17 rfl (lv_at hl 2 rfl) ?_
  refine lv_iadd hx hb dX0_keyOf_18 ?_
  exact fr_iret C hP hS h dX0_keyOf_19

/-! X0.listWith -/
abbrev wm_X0_listWith : List Cond := Cond.code yX0_listWith cX0_listWith 5 none :: wsL_law
def q_X0_listWith_16 (k : Nat) (post : fcS → Prop) : Nat → Int32 → Int32 → Int32 → Int32 → fcS → Prop
  | 0, _, _, _, _, _ => False
  | n + 1, v1, v2, v3, v4, t => (v2 ≤ v4 → (post t)) ∧ (¬ v2 ≤ v4 → ((450 ≤ (fgi t k 4) → (post t)) ∧ (¬ 450 ≤ (fgi t k 4) → (q_X3_squareRest t v4 v1 (fun (r4 : Int32) (t3 : fcS) => (¬ r4 = v3 → (∀ x5 : Int32, x5 = v4 + 1 → (q_X0_listWith_16 k post n v1 v2 v3 x5 t3))) ∧ (r4 = v3 → (q_X0_keyOf t3 k v1 v4 (fun (r7 : Int32) (t6 : fcS) => (vp_in ((fgi t3 k 4)) 450) ∧ (∀ t8 : fcS, t8 = fsa t6 ((k + 1)) (Int32.toNatClampNeg ((fgi t3 k 4))) r7 → (∀ t9 : fcS, t9 = fsi t8 k 4 (((fgi t8 k 4) + 1)) → (∀ x10 : Int32, x10 = v4 + 1 → (q_X0_listWith_16 k post n v1 v2 v3 x10 t9))))))))))))
def q_X0_listWith (t : fcS) (k : Nat) (a0 : Int32) (a1 : Int32) (post : fcS → Prop) : Prop := q_X3_rest t ((fgi t k 2)) a0 (fun (r2 : Int32) (t1 : fcS) => ∃ n0, q_X0_listWith_16 k post n0 a0 a1 r2 0 t1)
set_option maxHeartbeats 4000000 in
set_option maxRecDepth 100000 in
theorem k_X0_listWith_16 {D : va_G} {adr : Nat → Nat} {cs : Nat → ClassId} {N : Nat} (hN : 53 ≤ N) {p : Program} {l : Launch} {e : Env} {s : State} {m : MethodId} {args : Array Value} {below : List Frame} {meth : Method} {c : Code} (C : fCx D adr cs N p s m args meth c cX0_listWith 5 (none) RX0 wm_X0_listWith) (k : Nat) (hk : fisL k) {post : fcS → Prop} : ∀ (n : Nat) (v1 : Int32) (v2 : Int32) (v3 : Int32) (v4 : Int32) (t : fcS) (H : Heap) (locs : List Loc) (ls : Array Slot), q_X0_listWith_16 k post n v1 v2 v3 v4 t → va_P D vwCl (fwl adr N (fG adr cs t)) H → va_S (faN adr N) s.heap H locs → lv_has ls 5 [(0, .ref (adr k)), (1, .int v1), (2, .int v2), (3, .int v3), (4, .int v4)] → W p l e ({ frames := 2, cells := 0, slots := 0, locals := 54 } : Room) s m args below meth c H locs 0 0 (MQ below (fQv D adr cs N post) args s 0 0 (faN adr N)) (F0 m 16 ls []) := by
  have hx := C.1.1
  have hb := C.1.2.1
  intro n
  induction n with
  | zero => intro v1 v2 v3 v4 t H locs ls h; exact False.elim h
  | succ n ih =>
    intro v1 v2 v3 v4 t H locs ls h hP hS hl
    unfold q_X0_listWith_16 at h
    refine lv_iload hx hb dX0_listWith_16 (lv_at hl 4 rfl) ?_
    refine lv_iload_n hx hb dX0_listWith_18 rfl (lv_at hl 2 rfl) ?_
    refine lv_icmp_ge (tgt := 80) hx hb dX0_listWith_19 (by decide) (fun c9 => ?_) (fun c9 => ?_)
    · replace h := h.1 c9
      exact fr_vret C hP hS h dX0_listWith_80
    · replace h := h.2 c9
      refine lv_aload_n hx hb dX0_listWith_22 rfl (lv_at hl 0 rfl) ?_
      refine fr_get (j := 4) C hP (by have := hk.2.1; omega) (fG_CL adr cs t hk) rfl (fun w h => List.mem_cons_of_mem _ (inl_X0 w h)) (by decide) rfl (List.mem_cons_of_mem _ mw_17_20) rfl dX0_listWith_23 ?_
      refine lv_aload_n hx hb dX0_listWith_26 rfl (lv_at hl 0 rfl) ?_
      refine fr_get (j := 1) C hP (by have := hk.2.1; omega) (fG_CL adr cs t hk) rfl (fun w h => List.mem_cons_of_mem _ (inl_X0 w h)) (by decide) rfl (List.mem_cons_of_mem _ mw_3_11) rfl dX0_listWith_27 ?_
      refine fr_alen (q := 0) (v := 450) C hP (by have := hk.2.1; have := hk.2.2; omega) ((fun u => fG_LK adr cs u hk) t) rfl rfl dX0_listWith_30 ?_
      refine lv_icmp_ge (tgt := 80) hx hb dX0_listWith_31 (by decide) (fun c9 => ?_) (fun c9 => ?_)
      · replace h := h.1 c9
        exact fr_vret C hP hS h dX0_listWith_80
      · replace h := h.2 c9
        refine lv_aload_n hx hb dX0_listWith_34 rfl (lv_at hl 0 rfl) ?_
        refine fr_get (j := 0) C hP (by have := hk.2.1; omega) (fG_CL adr cs t hk) rfl (fun w h => List.mem_cons_of_mem _ (inl_X0 w h)) (by decide) rfl (List.mem_cons_of_mem _ mw_3_13) rfl dX0_listWith_35 ?_
        refine lv_iload hx hb dX0_listWith_38 (lv_at hl 4 rfl) ?_
        refine lv_iload_n hx hb dX0_listWith_40 rfl (lv_at hl 1 rfl) ?_
        refine fr_ci (fr_runV (n := 2) (rest := []) C (c_X3_squareRest l D adr cs hN t v4 v1 _ h) hP hS (by omega) (fG_PO adr cs t) rfl (fgV mw_27_5 mw_27_6 mw_27_7 mw_1_14 mw_27_8) rfl rfl rfl (by decide +kernel) ⟨Nat.le_of_ble_eq_true rfl, Nat.le_of_ble_eq_true rfl⟩ rfl hl.1 rfl (Nat.le_of_ble_eq_true rfl) dX0_listWith_41) hS (fun r4 t3 H locs h hP hS => ?_)
        refine lv_iload_n hx hb dX0_listWith_44 rfl (lv_at hl 3 rfl) ?_
        refine lv_icmp_ne (tgt := 74) hx hb dX0_listWith_45 (by decide) (fun c9 => ?_) (fun c9 => ?_)
        · replace h := h.1 c9
          obtain ⟨x5, ex5⟩ : ∃ y : Int32, y = v4 + 1 := ⟨_, rfl⟩
          replace h := h x5 ex5
          refine lv_iinc (v := x5) (lv' := [(4, .int x5), (0, .ref (adr k)), (1, .int v1), (2, .int v2), (3, .int v3)]) hx hb dX0_listWith_74 hl (k := 4) rfl (by rw [ex5]; rfl) (by decide) rfl (fun ls hl => ?_)
          refine lv_goto (tgt := 16) hx hb dX0_listWith_77 (by decide) ?_
          exact ih v1 v2 v3 x5 t3 _ _ _ h hP hS (lv_sub hl [1, 2, 3, 4, 0] rfl)
        · replace h := h.2 c9
          refine lv_aload_n hx hb dX0_listWith_48 rfl (lv_at hl 0 rfl) ?_
          refine fr_get (j := 1) C hP (by have := hk.2.1; omega) (fG_CL adr cs t3 hk) rfl (fun w h => List.mem_cons_of_mem _ (inl_X0 w h)) (by decide) rfl (List.mem_cons_of_mem _ mw_3_11) rfl dX0_listWith_49 ?_
          refine lv_aload_n hx hb dX0_listWith_52 rfl (lv_at hl 0 rfl) ?_
          refine fr_get (j := 4) C hP (by have := hk.2.1; omega) (fG_CL adr cs t3 hk) rfl (fun w h => List.mem_cons_of_mem _ (inl_X0 w h)) (by decide) rfl (List.mem_cons_of_mem _ mw_17_20) rfl dX0_listWith_53 ?_
          refine lv_aload_n hx hb dX0_listWith_56 rfl (lv_at hl 0 rfl) ?_
          refine lv_iload_n hx hb dX0_listWith_57 rfl (lv_at hl 1 rfl) ?_
          refine lv_iload hx hb dX0_listWith_58 (lv_at hl 4 rfl) ?_
          refine fr_ci (fr_runV (n := 2) (rest := [.int ((fgi t3 k 4)), .ref (adr ((k + 1)))]) C (c_X0_keyOf l D adr cs hN t3 k hk v1 v4 _ h) hP hS (by have := hk.2.1; omega) (fG_CL adr cs t3 hk) rfl (fgV mw_28_18 mw_28_19 mw_28_20 mw_3_5 mw_28_21) rfl rfl rfl (by decide +kernel) ⟨Nat.le_of_ble_eq_true rfl, Nat.le_of_ble_eq_true rfl⟩ rfl hl.1 rfl (Nat.le_of_ble_eq_true rfl) dX0_listWith_60) hS (fun r7 t6 H locs h hP hS => ?_)
          refine fr_iast C hP hS (by have := hk.2.1; have := hk.2.2; omega) (fun u => ((fun u => fG_LK adr cs u hk) u)) h.1 dX0_listWith_63 (fun H locs hP hS => ?_)
          obtain ⟨t8, et8⟩ : ∃ y : fcS, y = fsa t6 ((k + 1)) (Int32.toNatClampNeg ((fgi t3 k 4))) r7 := ⟨_, rfl⟩
          rw [← et8] at hP
          replace h := h.2 t8 et8
          refine lv_aload_n hx hb dX0_listWith_64 rfl (lv_at hl 0 rfl) ?_
          refine lv_dup hx hb dX0_listWith_65 rfl ?_
          refine fr_get (j := 4) C hP (by have := hk.2.1; omega) (fG_CL adr cs t8 hk) rfl (fun w h => List.mem_cons_of_mem _ (inl_X0 w h)) (by decide) rfl (List.mem_cons_of_mem _ mw_17_20) rfl dX0_listWith_66 ?_
          refine lv_iconst (v := 1) hx hb dX0_listWith_69 (by decide) ?_
          refine lv_iadd hx hb dX0_listWith_70 ?_
          refine fr_put C (fsi t8 k 4 (((fgi t8 k 4) + 1))) (j := 4) (ty := .int) hP hS (by have := hk.2.1; omega) (fG_CL adr cs t8 hk) rfl (fun w h => List.mem_cons_of_mem _ (inl_X0 w h)) tyX0_ok nmX0 (by decide) rfl (List.mem_cons_of_mem _ mw_17_20) rfl (by decide +kernel) rfl rfl (Nat.le_of_ble_eq_true rfl) (fS_CL_4 adr cs t8 hk (((fgi t8 k 4) + 1))) (fG_fsi_ne adr cs t8 k 4 (((fgi t8 k 4) + 1))) dX0_listWith_71 (fun H locs hP hS => ?_)
          obtain ⟨t9, et9⟩ : ∃ y : fcS, y = fsi t8 k 4 (((fgi t8 k 4) + 1)) := ⟨_, rfl⟩
          rw [← et9] at hP
          replace h := h t9 et9
          obtain ⟨x10, ex10⟩ : ∃ y : Int32, y = v4 + 1 := ⟨_, rfl⟩
          replace h := h x10 ex10
          refine lv_iinc (v := x10) (lv' := [(4, .int x10), (0, .ref (adr k)), (1, .int v1), (2, .int v2), (3, .int v3)]) hx hb dX0_listWith_74 hl (k := 4) rfl (by rw [ex10]; rfl) (by decide) rfl (fun ls hl => ?_)
          refine lv_goto (tgt := 16) hx hb dX0_listWith_77 (by decide) ?_
          exact ih v1 v2 v3 x10 t9 _ _ _ h hP hS (lv_sub hl [1, 2, 3, 4, 0] rfl)

set_option maxHeartbeats 4000000 in
set_option maxRecDepth 100000 in
theorem c_X0_listWith (l : Launch) (D : va_G) (adr : Nat → Nat) (cs : Nat → ClassId) {N : Nat} (hN : 53 ≤ N) (t : fcS) (k : Nat) (hk : fisL k) (a0 : Int32) (a1 : Int32) (post : fcS → Prop) (h : q_X0_listWith t k a0 a1 post) : Met l yX0_listWith wm_X0_listWith ({ frames := 2, cells := 0, slots := 0, locals := 54 } : Room) (fcPre D adr cs N t [.ref (adr k), .int a0, .int a1]) (fQv D adr cs N post) 0 0 (faN adr N) := by
  refine f_enter (cc := cX0_listWith) (nL := 5) (ret := none) (lv := [(0, .ref (adr k)), (1, .int a0), (2, .int a1)]) (own := RX0) (by decide) rfl (Nat.le_of_ble_eq_true rfl) rfl rfl ?_
  intro p e s m below meth c ls C hP hS hl
  have hx := C.1.1
  have hb := C.1.2.1
  unfold q_X0_listWith at h
  refine lv_aload_n hx hb dX0_listWith_0 rfl (lv_at hl 0 rfl) ?_
  refine fr_get (j := 0) C hP (by have := hk.2.1; omega) (fG_CL adr cs t hk) rfl (fun w h => List.mem_cons_of_mem _ (inl_X0 w h)) (by decide) rfl (List.mem_cons_of_mem _ mw_3_13) rfl dX0_listWith_1 ?_
  refine lv_aload_n hx hb dX0_listWith_4 rfl (lv_at hl 0 rfl) ?_
  refine fr_get (j := 2) C hP (by have := hk.2.1; omega) (fG_CL adr cs t hk) rfl (fun w h => List.mem_cons_of_mem _ (inl_X0 w h)) (by decide) rfl (List.mem_cons_of_mem _ mw_17_19) rfl dX0_listWith_5 ?_
  refine lv_iload_n hx hb dX0_listWith_8 rfl (lv_at hl 1 rfl) ?_
  refine fr_ci (fr_runV (n := 2) (rest := []) C (c_X3_rest l D adr cs hN t ((fgi t k 2)) a0 _ h) hP hS (by omega) (fG_PO adr cs t) rfl (fgV mw_27_9 mw_5_1 mw_5_2 mw_1_14 mw_5_3) rfl rfl rfl (by decide +kernel) ⟨Nat.le_of_ble_eq_true rfl, Nat.le_of_ble_eq_true rfl⟩ rfl hl.1 rfl (Nat.le_of_ble_eq_true rfl) dX0_listWith_9) hS (fun r2 t1 H locs h hP hS => ?_)
  refine lv_istore_n (lv' := [(3, .int r2), (0, .ref (adr k)), (1, .int a0), (2, .int a1)]) hx hb dX0_listWith_12 rfl hl (by decide) rfl (fun ls hl => ?_)
  refine lv_iconst (v := 0) hx hb dX0_listWith_13 (by decide) ?_
  refine lv_istore (lv' := [(4, .int 0), (3, .int r2), (0, .ref (adr k)), (1, .int a0), (2, .int a1)]) hx hb dX0_listWith_14 hl (by decide) rfl (fun ls hl => ?_)
  obtain ⟨n9, h⟩ := h
  exact k_X0_listWith_16 hN C k hk n9 a0 a1 r2 0 t1 _ _ _ h hP hS (lv_sub hl [2, 3, 4, 1, 0] rfl)

/-! X0.goThrough -/
abbrev wm_X0_goThrough : List Cond := Cond.code yX0_goThrough cX0_goThrough 4 none :: wsL_law
def q_X0_goThrough_21 (k : Nat) (post : fcS → Prop) (k2 : Int32 → fcS → Prop) : Nat → Int32 → Int32 → Int32 → fcS → Prop
  | 0, _, _, _, _ => False
  | n + 1, v1, v2, v3, t => ((2 * v2) ≤ v3 → (∀ x3 : Int32, x3 = v1 + 1 → (k2 x3 t))) ∧ (¬ (2 * v2) ≤ v3 → (q_X0_listWith t k v3 v2 (fun (t4 : fcS) => ∀ x5 : Int32, x5 = v3 + 1 → (q_X0_goThrough_21 k post k2 n v1 v2 x5 t4))))
def q_X0_goThrough_2 (k : Nat) (post : fcS → Prop) : Nat → Int32 → fcS → Prop
  | 0, _, _ => False
  | n + 1, v1, t => ((fgi t k 3) < v1 → (post t)) ∧ (¬ (fgi t k 3) < v1 → (q_X3_place t v1 (fun (r2 : Int32) (t1 : fcS) => ∃ n0, q_X0_goThrough_21 k post (fun v1_ t_ => q_X0_goThrough_2 k post n v1_ t_) n0 v1 r2 r2 t1)))
def q_X0_goThrough (t : fcS) (k : Nat) (post : fcS → Prop) : Prop := ∃ n0, q_X0_goThrough_2 k post n0 0 t
set_option maxHeartbeats 4000000 in
set_option maxRecDepth 100000 in
theorem k_X0_goThrough_21 {D : va_G} {adr : Nat → Nat} {cs : Nat → ClassId} {N : Nat} (hN : 53 ≤ N) {p : Program} {l : Launch} {e : Env} {s : State} {m : MethodId} {args : Array Value} {below : List Frame} {meth : Method} {c : Code} (C : fCx D adr cs N p s m args meth c cX0_goThrough 4 (none) RX0 wm_X0_goThrough) (k : Nat) (hk : fisL k) {post : fcS → Prop} {k2 : Int32 → fcS → Prop} (hk2 : ∀ (v1 : Int32) (t : fcS) (H : Heap) (locs : List Loc) (ls : Array Slot), k2 v1 t → va_P D vwCl (fwl adr N (fG adr cs t)) H → va_S (faN adr N) s.heap H locs → lv_has ls 4 [(0, .ref (adr k)), (1, .int v1)] → W p l e ({ frames := 3, cells := 0, slots := 0, locals := 78 } : Room) s m args below meth c H locs 0 0 (MQ below (fQv D adr cs N post) args s 0 0 (faN adr N)) (F0 m 2 ls [])) : ∀ (n : Nat) (v1 : Int32) (v2 : Int32) (v3 : Int32) (t : fcS) (H : Heap) (locs : List Loc) (ls : Array Slot), q_X0_goThrough_21 k post k2 n v1 v2 v3 t → va_P D vwCl (fwl adr N (fG adr cs t)) H → va_S (faN adr N) s.heap H locs → lv_has ls 4 [(0, .ref (adr k)), (1, .int v1), (2, .int v2), (3, .int v3)] → W p l e ({ frames := 3, cells := 0, slots := 0, locals := 78 } : Room) s m args below meth c H locs 0 0 (MQ below (fQv D adr cs N post) args s 0 0 (faN adr N)) (F0 m 21 ls []) := by
  have hx := C.1.1
  have hb := C.1.2.1
  intro n
  induction n with
  | zero => intro v1 v2 v3 t H locs ls h; exact False.elim h
  | succ n ih =>
    intro v1 v2 v3 t H locs ls h hP hS hl
    unfold q_X0_goThrough_21 at h
    refine lv_iload_n hx hb dX0_goThrough_21 rfl (lv_at hl 3 rfl) ?_
    refine lv_iconst (v := 2) hx hb dX0_goThrough_22 (by decide) ?_
    refine lv_iload_n hx hb dX0_goThrough_23 rfl (lv_at hl 2 rfl) ?_
    refine lv_imul hx hb dX0_goThrough_24 ?_
    refine lv_icmp_ge (tgt := 40) hx hb dX0_goThrough_25 (by decide) (fun c9 => ?_) (fun c9 => ?_)
    · replace h := h.1 c9
      obtain ⟨x3, ex3⟩ : ∃ y : Int32, y = v1 + 1 := ⟨_, rfl⟩
      replace h := h x3 ex3
      refine lv_iinc (v := x3) (lv' := [(1, .int x3), (0, .ref (adr k)), (2, .int v2), (3, .int v3)]) hx hb dX0_goThrough_40 hl (k := 1) rfl (by rw [ex3]; rfl) (by decide) rfl (fun ls hl => ?_)
      refine lv_goto (tgt := 2) hx hb dX0_goThrough_43 (by decide) ?_
      exact hk2 x3 t _ _ _ h hP hS (lv_sub hl [1, 0] rfl)
    · replace h := h.2 c9
      refine lv_aload_n hx hb dX0_goThrough_28 rfl (lv_at hl 0 rfl) ?_
      refine lv_iload_n hx hb dX0_goThrough_29 rfl (lv_at hl 3 rfl) ?_
      refine lv_iload_n hx hb dX0_goThrough_30 rfl (lv_at hl 2 rfl) ?_
      refine fr_cv (fr_runV (n := 2) (rest := []) C (c_X0_listWith l D adr cs hN t k hk v3 v2 _ h) hP hS (by have := hk.2.1; omega) (fG_CL adr cs t hk) rfl (fgV mw_28_14 mw_28_15 mw_28_16 mw_3_5 mw_28_17) rfl rfl rfl (by decide +kernel) ⟨Nat.le_of_ble_eq_true rfl, Nat.le_of_ble_eq_true rfl⟩ rfl hl.1 rfl (Nat.le_of_ble_eq_true rfl) dX0_goThrough_31) hS (fun t4 H locs h hP hS => ?_)
      obtain ⟨x5, ex5⟩ : ∃ y : Int32, y = v3 + 1 := ⟨_, rfl⟩
      replace h := h x5 ex5
      refine lv_iinc (v := x5) (lv' := [(3, .int x5), (0, .ref (adr k)), (1, .int v1), (2, .int v2)]) hx hb dX0_goThrough_34 hl (k := 3) rfl (by rw [ex5]; rfl) (by decide) rfl (fun ls hl => ?_)
      refine lv_goto (tgt := 21) hx hb dX0_goThrough_37 (by decide) ?_
      exact ih v1 v2 x5 t4 _ _ _ h hP hS (lv_sub hl [1, 2, 3, 0] rfl)

set_option maxHeartbeats 4000000 in
set_option maxRecDepth 100000 in
theorem k_X0_goThrough_2 {D : va_G} {adr : Nat → Nat} {cs : Nat → ClassId} {N : Nat} (hN : 53 ≤ N) {p : Program} {l : Launch} {e : Env} {s : State} {m : MethodId} {args : Array Value} {below : List Frame} {meth : Method} {c : Code} (C : fCx D adr cs N p s m args meth c cX0_goThrough 4 (none) RX0 wm_X0_goThrough) (k : Nat) (hk : fisL k) {post : fcS → Prop} : ∀ (n : Nat) (v1 : Int32) (t : fcS) (H : Heap) (locs : List Loc) (ls : Array Slot), q_X0_goThrough_2 k post n v1 t → va_P D vwCl (fwl adr N (fG adr cs t)) H → va_S (faN adr N) s.heap H locs → lv_has ls 4 [(0, .ref (adr k)), (1, .int v1)] → W p l e ({ frames := 3, cells := 0, slots := 0, locals := 78 } : Room) s m args below meth c H locs 0 0 (MQ below (fQv D adr cs N post) args s 0 0 (faN adr N)) (F0 m 2 ls []) := by
  have hx := C.1.1
  have hb := C.1.2.1
  intro n
  induction n with
  | zero => intro v1 t H locs ls h; exact False.elim h
  | succ n ih =>
    intro v1 t H locs ls h hP hS hl
    unfold q_X0_goThrough_2 at h
    refine lv_iload_n hx hb dX0_goThrough_2 rfl (lv_at hl 1 rfl) ?_
    refine lv_aload_n hx hb dX0_goThrough_3 rfl (lv_at hl 0 rfl) ?_
    refine fr_get (j := 3) C hP (by have := hk.2.1; omega) (fG_CL adr cs t hk) rfl (fun w h => List.mem_cons_of_mem _ (inl_X0 w h)) (by decide) rfl (List.mem_cons_of_mem _ mw_3_12) rfl dX0_goThrough_4 ?_
    refine lv_icmp_gt (tgt := 46) hx hb dX0_goThrough_7 (by decide) (fun c9 => ?_) (fun c9 => ?_)
    · replace h := h.1 c9
      exact fr_vret C hP hS h dX0_goThrough_46
    · replace h := h.2 c9
      refine lv_aload_n hx hb dX0_goThrough_10 rfl (lv_at hl 0 rfl) ?_
      refine fr_get (j := 0) C hP (by have := hk.2.1; omega) (fG_CL adr cs t hk) rfl (fun w h => List.mem_cons_of_mem _ (inl_X0 w h)) (by decide) rfl (List.mem_cons_of_mem _ mw_3_13) rfl dX0_goThrough_11 ?_
      refine lv_iload_n hx hb dX0_goThrough_14 rfl (lv_at hl 1 rfl) ?_
      refine fr_ci (fr_runV (n := 1) (rest := []) C (c_X3_place l D adr cs hN t v1 _ h) hP hS (by omega) (fG_PO adr cs t) rfl (fgV mw_27_4 mw_4_6 mw_4_7 mw_1_14 mw_4_8) rfl rfl rfl (by decide +kernel) ⟨Nat.le_of_ble_eq_true rfl, Nat.le_of_ble_eq_true rfl⟩ rfl hl.1 rfl (Nat.le_of_ble_eq_true rfl) dX0_goThrough_15) hS (fun r2 t1 H locs h hP hS => ?_)
      refine lv_istore_n (lv' := [(2, .int r2), (0, .ref (adr k)), (1, .int v1)]) hx hb dX0_goThrough_18 rfl hl (by decide) rfl (fun ls hl => ?_)
      refine lv_iload_n hx hb dX0_goThrough_19 rfl (lv_at hl 0 rfl) ?_
      refine lv_istore_n (lv' := [(3, .int r2), (2, .int r2), (0, .ref (adr k)), (1, .int v1)]) hx hb dX0_goThrough_20 rfl hl (by decide) rfl (fun ls hl => ?_)
      obtain ⟨n9, h⟩ := h
      exact k_X0_goThrough_21 hN C k hk ih n9 v1 r2 r2 t1 _ _ _ h hP hS (lv_sub hl [2, 3, 1, 0] rfl)

set_option maxHeartbeats 4000000 in
set_option maxRecDepth 100000 in
theorem c_X0_goThrough (l : Launch) (D : va_G) (adr : Nat → Nat) (cs : Nat → ClassId) {N : Nat} (hN : 53 ≤ N) (t : fcS) (k : Nat) (hk : fisL k) (post : fcS → Prop) (h : q_X0_goThrough t k post) : Met l yX0_goThrough wm_X0_goThrough ({ frames := 3, cells := 0, slots := 0, locals := 78 } : Room) (fcPre D adr cs N t [.ref (adr k)]) (fQv D adr cs N post) 0 0 (faN adr N) := by
  refine f_enter (cc := cX0_goThrough) (nL := 4) (ret := none) (lv := [(0, .ref (adr k))]) (own := RX0) (by decide) rfl (Nat.le_of_ble_eq_true rfl) rfl rfl ?_
  intro p e s m below meth c ls C hP hS hl
  have hx := C.1.1
  have hb := C.1.2.1
  unfold q_X0_goThrough at h
  refine lv_iconst (v := 0) hx hb dX0_goThrough_0 (by decide) ?_
  refine lv_istore_n (lv' := [(1, .int 0), (0, .ref (adr k))]) hx hb dX0_goThrough_1 rfl hl (by decide) rfl (fun ls hl => ?_)
  obtain ⟨n9, h⟩ := h
  exact k_X0_goThrough_2 hN C k hk n9 0 t _ _ _ h hP hS (lv_sub hl [1, 0] rfl)

/-! X0.many -/
abbrev wm_X0_many : List Cond := Cond.code yX0_many cX0_many 1 (some .int) :: wsL_law
def q_X0_many (t : fcS) (k : Nat) (post : Int32 → fcS → Prop) : Prop := (¬ (fgi t k 4) = 0 → (post ((fgi t k 4)) t)) ∧ ((fgi t k 4) = 0 → (q_X0_goThrough t k (fun (t1 : fcS) => post ((fgi t1 k 4)) t1)))
set_option maxHeartbeats 4000000 in
set_option maxRecDepth 100000 in
theorem c_X0_many (l : Launch) (D : va_G) (adr : Nat → Nat) (cs : Nat → ClassId) {N : Nat} (hN : 53 ≤ N) (t : fcS) (k : Nat) (hk : fisL k) (post : Int32 → fcS → Prop) (h : q_X0_many t k post) : Met l yX0_many wm_X0_many ({ frames := 4, cells := 0, slots := 0, locals := 101 } : Room) (fcPre D adr cs N t [.ref (adr k)]) (fQi D adr cs N post) 0 0 (faN adr N) := by
  refine f_enter (cc := cX0_many) (nL := 1) (ret := some .int) (lv := [(0, .ref (adr k))]) (own := RX0) (by decide) rfl (Nat.le_of_ble_eq_true rfl) rfl rfl ?_
  intro p e s m below meth c ls C hP hS hl
  have hx := C.1.1
  have hb := C.1.2.1
  unfold q_X0_many at h
  refine lv_aload_n hx hb dX0_many_0 rfl (lv_at hl 0 rfl) ?_
  refine fr_get (j := 4) C hP (by have := hk.2.1; omega) (fG_CL adr cs t hk) rfl (fun w h => List.mem_cons_of_mem _ (inl_X0 w h)) (by decide) rfl (List.mem_cons_of_mem _ mw_17_20) rfl dX0_many_1 ?_
  refine lv_if_ne (tgt := 11) hx hb dX0_many_4 (by decide) (fun c9 => ?_) (fun c9 => ?_)
  · replace h := h.1 c9
    refine lv_aload_n hx hb dX0_many_11 rfl (lv_at hl 0 rfl) ?_
    refine fr_get (j := 4) C hP (by have := hk.2.1; omega) (fG_CL adr cs t hk) rfl (fun w h => List.mem_cons_of_mem _ (inl_X0 w h)) (by decide) rfl (List.mem_cons_of_mem _ mw_17_20) rfl dX0_many_12 ?_
    exact fr_iret C hP hS h dX0_many_15
  · replace h := h.2 c9
    refine lv_aload_n hx hb dX0_many_7 rfl (lv_at hl 0 rfl) ?_
    refine fr_cv (fr_runV (n := 0) (rest := []) C (c_X0_goThrough l D adr cs hN t k hk _ h) hP hS (by have := hk.2.1; omega) (fG_CL adr cs t hk) rfl (fgV mw_28_10 mw_28_11 mw_28_12 mw_3_5 mw_28_13) rfl rfl rfl (by decide +kernel) ⟨Nat.le_of_ble_eq_true rfl, Nat.le_of_ble_eq_true rfl⟩ rfl hl.1 rfl (Nat.le_of_ble_eq_true rfl) dX0_many_8) hS (fun t1 H locs h hP hS => ?_)
    refine lv_aload_n hx hb dX0_many_11 rfl (lv_at hl 0 rfl) ?_
    refine fr_get (j := 4) C hP (by have := hk.2.1; omega) (fG_CL adr cs t1 hk) rfl (fun w h => List.mem_cons_of_mem _ (inl_X0 w h)) (by decide) rfl (List.mem_cons_of_mem _ mw_17_20) rfl dX0_many_12 ?_
    exact fr_iret C hP hS h dX0_many_15

/-! X0.reaches -/
abbrev wm_X0_reaches : List Cond := Cond.code yX0_reaches cX0_reaches 2 (some .boolean) :: wsL_law
def q_X0_reaches (t : fcS) (k : Nat) (a0 : Int32) (post : Int32 → fcS → Prop) : Prop := (a0 < 0 → (post 0 t)) ∧ (¬ a0 < 0 → (q_X0_many t k (fun (r2 : Int32) (t1 : fcS) => (r2 ≤ a0 → (post 0 t1)) ∧ (¬ r2 ≤ a0 → (post 1 t1)))))
set_option maxHeartbeats 4000000 in
set_option maxRecDepth 100000 in
theorem c_X0_reaches (l : Launch) (D : va_G) (adr : Nat → Nat) (cs : Nat → ClassId) {N : Nat} (hN : 53 ≤ N) (t : fcS) (k : Nat) (hk : fisL k) (a0 : Int32) (post : Int32 → fcS → Prop) (h : q_X0_reaches t k a0 post) : Met l yX0_reaches wm_X0_reaches ({ frames := 5, cells := 0, slots := 0, locals := 121 } : Room) (fcPre D adr cs N t [.ref (adr k), .int a0]) (fQi D adr cs N post) 0 0 (faN adr N) := by
  refine f_enter (cc := cX0_reaches) (nL := 2) (ret := some .boolean) (lv := [(0, .ref (adr k)), (1, .int a0)]) (own := RX0) (by decide) rfl (Nat.le_of_ble_eq_true rfl) rfl rfl ?_
  intro p e s m below meth c ls C hP hS hl
  have hx := C.1.1
  have hb := C.1.2.1
  unfold q_X0_reaches at h
  refine lv_iload_n hx hb dX0_reaches_0 rfl (lv_at hl 1 rfl) ?_
  refine lv_if_lt (tgt := 16) hx hb dX0_reaches_1 (by decide) (fun c9 => ?_) (fun c9 => ?_)
  · replace h := h.1 c9
    refine lv_iconst (v := 0) hx hb dX0_reaches_16 (by decide) ?_
    exact fr_zret C hP hS rfl h dX0_reaches_17
  · replace h := h.2 c9
    refine lv_iload_n hx hb dX0_reaches_4 rfl (lv_at hl 1 rfl) ?_
    refine lv_aload_n hx hb dX0_reaches_5 rfl (lv_at hl 0 rfl) ?_
    refine fr_ci (fr_runV (n := 0) (rest := [.int a0]) C (c_X0_many l D adr cs hN t k hk _ h) hP hS (by have := hk.2.1; omega) (fG_CL adr cs t hk) rfl (fgV mw_30_15 mw_28_7 mw_28_8 mw_3_5 mw_28_9) rfl rfl rfl (by decide +kernel) ⟨Nat.le_of_ble_eq_true rfl, Nat.le_of_ble_eq_true rfl⟩ rfl hl.1 rfl (Nat.le_of_ble_eq_true rfl) dX0_reaches_6) hS (fun r2 t1 H locs h hP hS => ?_)
    refine lv_icmp_ge (tgt := 16) hx hb dX0_reaches_9 (by decide) (fun c9 => ?_) (fun c9 => ?_)
    · replace h := h.1 c9
      refine lv_iconst (v := 0) hx hb dX0_reaches_16 (by decide) ?_
      exact fr_zret C hP hS rfl h dX0_reaches_17
    · replace h := h.2 c9
      refine lv_iconst (v := 1) hx hb dX0_reaches_12 (by decide) ?_
      refine lv_goto (tgt := 17) hx hb dX0_reaches_13 (by decide) ?_
      exact fr_zret C hP hS rfl h dX0_reaches_17

/-! X0.keyAt -/
abbrev wm_X0_keyAt : List Cond := Cond.code yX0_keyAt cX0_keyAt 2 (some .int) :: wsL_law
def q_X0_keyAt (t : fcS) (k : Nat) (a0 : Int32) (post : Int32 → fcS → Prop) : Prop := q_X4_at t ((k + 1)) 450 a0 (fun (r2 : Int32) (t1 : fcS) => post r2 t1)
set_option maxHeartbeats 4000000 in
set_option maxRecDepth 100000 in
theorem c_X0_keyAt (l : Launch) (D : va_G) (adr : Nat → Nat) (cs : Nat → ClassId) {N : Nat} (hN : 53 ≤ N) (t : fcS) (k : Nat) (hk : fisL k) (a0 : Int32) (post : Int32 → fcS → Prop) (h : q_X0_keyAt t k a0 post) : Met l yX0_keyAt wm_X0_keyAt ({ frames := 1, cells := 0, slots := 0, locals := 21 } : Room) (fcPre D adr cs N t [.ref (adr k), .int a0]) (fQi D adr cs N post) 0 0 (faN adr N) := by
  refine f_enter (cc := cX0_keyAt) (nL := 2) (ret := some .int) (lv := [(0, .ref (adr k)), (1, .int a0)]) (own := RX0) (by decide) rfl (Nat.le_of_ble_eq_true rfl) rfl rfl ?_
  intro p e s m below meth c ls C hP hS hl
  have hx := C.1.1
  have hb := C.1.2.1
  unfold q_X0_keyAt at h
  refine lv_aload_n hx hb dX0_keyAt_0 rfl (lv_at hl 0 rfl) ?_
  refine fr_get (j := 1) C hP (by have := hk.2.1; omega) (fG_CL adr cs t hk) rfl (fun w h => List.mem_cons_of_mem _ (inl_X0 w h)) (by decide) rfl (List.mem_cons_of_mem _ mw_3_11) rfl dX0_keyAt_1 ?_
  refine lv_iload_n hx hb dX0_keyAt_4 rfl (lv_at hl 1 rfl) ?_
  refine fr_ci (fr_runN (n := 2) (rest := []) C (c_X4_at l D adr cs hN t ((k + 1)) 450 (fun u => ((fun u => fG_LK adr cs u hk) u)) (by have := hk.2.1; have := hk.2.2; omega) a0 _ h) hP hS (by decide +kernel) (fgN mw_6_20) rfl rfl rfl (List.mem_cons_of_mem _ mw_1_2) (List.mem_cons_of_mem _ mw_6_19) (by decide +kernel) ⟨Nat.le_of_ble_eq_true rfl, Nat.le_of_ble_eq_true rfl⟩ rfl hl.1 rfl (Nat.le_of_ble_eq_true rfl) dX0_keyAt_5) hS (fun r2 t1 H locs h hP hS => ?_)
  exact fr_iret C hP hS h dX0_keyAt_8

/-! X0.uOf -/
abbrev wm_X0_uOf : List Cond := Cond.code yX0_uOf cX0_uOf 2 (some .int) :: wsL_law
def q_X0_uOf (t : fcS) (k : Nat) (a0 : Int32) (post : Int32 → fcS → Prop) : Prop := (¬ ((fgi t 1 0) : Int32) = 0) ∧ ((¬ ((fgi t 1 0) : Int32) = 0) ∧ (post (((a0 / (fgi t 1 0)) / (fgi t 1 0))) t))
set_option maxHeartbeats 4000000 in
set_option maxRecDepth 100000 in
theorem c_X0_uOf (l : Launch) (D : va_G) (adr : Nat → Nat) (cs : Nat → ClassId) {N : Nat} (hN : 53 ≤ N) (t : fcS) (k : Nat) (hk : fisL k) (a0 : Int32) (post : Int32 → fcS → Prop) (h : q_X0_uOf t k a0 post) : Met l yX0_uOf wm_X0_uOf ({ frames := 0, cells := 0, slots := 0, locals := 0 } : Room) (fcPre D adr cs N t [.ref (adr k), .int a0]) (fQi D adr cs N post) 0 0 (faN adr N) := by
  refine f_enter (cc := cX0_uOf) (nL := 2) (ret := some .int) (lv := [(0, .ref (adr k)), (1, .int a0)]) (own := RX0) (by decide) rfl (Nat.le_of_ble_eq_true rfl) rfl rfl ?_
  intro p e s m below meth c ls C hP hS hl
  have hx := C.1.1
  have hb := C.1.2.1
  unfold q_X0_uOf at h
  refine lv_iload_n hx hb dX0_uOf_0 rfl (lv_at hl 1 rfl) ?_
  refine lv_aload_n hx hb dX0_uOf_1 rfl (lv_at hl 0 rfl) ?_
  refine fr_get (j := 0) C hP (by have := hk.2.1; omega) (fG_CL adr cs t hk) rfl (fun w h => List.mem_cons_of_mem _ (inl_X0 w h)) (by decide) rfl (List.mem_cons_of_mem _ mw_3_13) rfl dX0_uOf_2 ?_
  refine fr_getN (j := 0) C hP (by omega) (fG_PO adr cs t) rfl (fun w h => List.mem_cons_of_mem _ (inl_X3 w h)) (by decide) rfl (by decide +kernel) rfl dX0_uOf_5 ?_
  refine lv_idiv hx hb dX0_uOf_8 h.1 ?_
  replace h := h.2
  refine lv_aload_n hx hb dX0_uOf_9 rfl (lv_at hl 0 rfl) ?_
  refine fr_get (j := 0) C hP (by have := hk.2.1; omega) (fG_CL adr cs t hk) rfl (fun w h => List.mem_cons_of_mem _ (inl_X0 w h)) (by decide) rfl (List.mem_cons_of_mem _ mw_3_13) rfl dX0_uOf_10 ?_
  refine fr_getN (j := 0) C hP (by omega) (fG_PO adr cs t) rfl (fun w h => List.mem_cons_of_mem _ (inl_X3 w h)) (by decide) rfl (by decide +kernel) rfl dX0_uOf_13 ?_
  refine lv_idiv hx hb dX0_uOf_16 h.1 ?_
  replace h := h.2
  exact fr_iret C hP hS h dX0_uOf_17

/-! X0.vOf -/
abbrev wm_X0_vOf : List Cond := Cond.code yX0_vOf cX0_vOf 2 (some .int) :: wsL_law
def q_X0_vOf (t : fcS) (k : Nat) (a0 : Int32) (post : Int32 → fcS → Prop) : Prop := (¬ (((fgi t 1 0) * (fgi t 1 0)) : Int32) = 0) ∧ (post ((irm a0 (((fgi t 1 0) * (fgi t 1 0))))) t)
set_option maxHeartbeats 4000000 in
set_option maxRecDepth 100000 in
theorem c_X0_vOf (l : Launch) (D : va_G) (adr : Nat → Nat) (cs : Nat → ClassId) {N : Nat} (hN : 53 ≤ N) (t : fcS) (k : Nat) (hk : fisL k) (a0 : Int32) (post : Int32 → fcS → Prop) (h : q_X0_vOf t k a0 post) : Met l yX0_vOf wm_X0_vOf ({ frames := 0, cells := 0, slots := 0, locals := 0 } : Room) (fcPre D adr cs N t [.ref (adr k), .int a0]) (fQi D adr cs N post) 0 0 (faN adr N) := by
  refine f_enter (cc := cX0_vOf) (nL := 2) (ret := some .int) (lv := [(0, .ref (adr k)), (1, .int a0)]) (own := RX0) (by decide) rfl (Nat.le_of_ble_eq_true rfl) rfl rfl ?_
  intro p e s m below meth c ls C hP hS hl
  have hx := C.1.1
  have hb := C.1.2.1
  unfold q_X0_vOf at h
  refine lv_iload_n hx hb dX0_vOf_0 rfl (lv_at hl 1 rfl) ?_
  refine lv_aload_n hx hb dX0_vOf_1 rfl (lv_at hl 0 rfl) ?_
  refine fr_get (j := 0) C hP (by have := hk.2.1; omega) (fG_CL adr cs t hk) rfl (fun w h => List.mem_cons_of_mem _ (inl_X0 w h)) (by decide) rfl (List.mem_cons_of_mem _ mw_3_13) rfl dX0_vOf_2 ?_
  refine fr_getN (j := 0) C hP (by omega) (fG_PO adr cs t) rfl (fun w h => List.mem_cons_of_mem _ (inl_X3 w h)) (by decide) rfl (by decide +kernel) rfl dX0_vOf_5 ?_
  refine lv_aload_n hx hb dX0_vOf_8 rfl (lv_at hl 0 rfl) ?_
  refine fr_get (j := 0) C hP (by have := hk.2.1; omega) (fG_CL adr cs t hk) rfl (fun w h => List.mem_cons_of_mem _ (inl_X0 w h)) (by decide) rfl (List.mem_cons_of_mem _ mw_3_13) rfl dX0_vOf_9 ?_
  refine fr_getN (j := 0) C hP (by omega) (fG_PO adr cs t) rfl (fun w h => List.mem_cons_of_mem _ (inl_X3 w h)) (by decide) rfl (by decide +kernel) rfl dX0_vOf_12 ?_
  refine lv_imul hx hb dX0_vOf_15 ?_
  refine lv_irem hx hb dX0_vOf_16 h.1 ?_
  replace h := h.2
  exact fr_iret C hP hS h dX0_vOf_17

/-! X0.placeOf -/
abbrev wm_X0_placeOf : List Cond := Cond.code yX0_placeOf cX0_placeOf 3 (some .int) :: wsL_law
def q_X0_placeOf_2 (k : Nat) (post : Int32 → fcS → Prop) : Nat → Int32 → Int32 → fcS → Prop
  | 0, _, _, _ => False
  | n + 1, v1, v2, t => ((fgi t k 4) ≤ v2 → (post ((-9)) t)) ∧ (¬ (fgi t k 4) ≤ v2 → (q_X4_at t ((k + 1)) 450 v2 (fun (r2 : Int32) (t1 : fcS) => (¬ r2 = v1 → (∀ x3 : Int32, x3 = v2 + 1 → (q_X0_placeOf_2 k post n v1 x3 t1))) ∧ (r2 = v1 → (post v2 t1)))))
def q_X0_placeOf (t : fcS) (k : Nat) (a0 : Int32) (post : Int32 → fcS → Prop) : Prop := ∃ n0, q_X0_placeOf_2 k post n0 a0 0 t
set_option maxHeartbeats 4000000 in
set_option maxRecDepth 100000 in
theorem k_X0_placeOf_2 {D : va_G} {adr : Nat → Nat} {cs : Nat → ClassId} {N : Nat} (hN : 53 ≤ N) {p : Program} {l : Launch} {e : Env} {s : State} {m : MethodId} {args : Array Value} {below : List Frame} {meth : Method} {c : Code} (C : fCx D adr cs N p s m args meth c cX0_placeOf 3 (some .int) RX0 wm_X0_placeOf) (k : Nat) (hk : fisL k) {post : Int32 → fcS → Prop} : ∀ (n : Nat) (v1 : Int32) (v2 : Int32) (t : fcS) (H : Heap) (locs : List Loc) (ls : Array Slot), q_X0_placeOf_2 k post n v1 v2 t → va_P D vwCl (fwl adr N (fG adr cs t)) H → va_S (faN adr N) s.heap H locs → lv_has ls 3 [(0, .ref (adr k)), (1, .int v1), (2, .int v2)] → W p l e ({ frames := 1, cells := 0, slots := 0, locals := 21 } : Room) s m args below meth c H locs 0 0 (MQ below (fQi D adr cs N post) args s 0 0 (faN adr N)) (F0 m 2 ls []) := by
  have hx := C.1.1
  have hb := C.1.2.1
  intro n
  induction n with
  | zero => intro v1 v2 t H locs ls h; exact False.elim h
  | succ n ih =>
    intro v1 v2 t H locs ls h hP hS hl
    unfold q_X0_placeOf_2 at h
    refine lv_iload_n hx hb dX0_placeOf_2 rfl (lv_at hl 2 rfl) ?_
    refine lv_aload_n hx hb dX0_placeOf_3 rfl (lv_at hl 0 rfl) ?_
    refine fr_get (j := 4) C hP (by have := hk.2.1; omega) (fG_CL adr cs t hk) rfl (fun w h => List.mem_cons_of_mem _ (inl_X0 w h)) (by decide) rfl (List.mem_cons_of_mem _ mw_17_20) rfl dX0_placeOf_4 ?_
    refine lv_icmp_ge (tgt := 30) hx hb dX0_placeOf_7 (by decide) (fun c9 => ?_) (fun c9 => ?_)
    · replace h := h.1 c9
      refine lv_bipush (v := (-9)) hx hb dX0_placeOf_30 (by decide) ?_
      exact fr_iret C hP hS h dX0_placeOf_32
    · replace h := h.2 c9
      refine lv_aload_n hx hb dX0_placeOf_10 rfl (lv_at hl 0 rfl) ?_
      refine fr_get (j := 1) C hP (by have := hk.2.1; omega) (fG_CL adr cs t hk) rfl (fun w h => List.mem_cons_of_mem _ (inl_X0 w h)) (by decide) rfl (List.mem_cons_of_mem _ mw_3_11) rfl dX0_placeOf_11 ?_
      refine lv_iload_n hx hb dX0_placeOf_14 rfl (lv_at hl 2 rfl) ?_
      refine fr_ci (fr_runN (n := 2) (rest := []) C (c_X4_at l D adr cs hN t ((k + 1)) 450 (fun u => ((fun u => fG_LK adr cs u hk) u)) (by have := hk.2.1; have := hk.2.2; omega) v2 _ h) hP hS (by decide +kernel) (fgN mw_6_20) rfl rfl rfl (List.mem_cons_of_mem _ mw_1_2) (List.mem_cons_of_mem _ mw_6_19) (by decide +kernel) ⟨Nat.le_of_ble_eq_true rfl, Nat.le_of_ble_eq_true rfl⟩ rfl hl.1 rfl (Nat.le_of_ble_eq_true rfl) dX0_placeOf_15) hS (fun r2 t1 H locs h hP hS => ?_)
      refine lv_iload_n hx hb dX0_placeOf_18 rfl (lv_at hl 1 rfl) ?_
      refine lv_icmp_ne (tgt := 24) hx hb dX0_placeOf_19 (by decide) (fun c9 => ?_) (fun c9 => ?_)
      · replace h := h.1 c9
        obtain ⟨x3, ex3⟩ : ∃ y : Int32, y = v2 + 1 := ⟨_, rfl⟩
        replace h := h x3 ex3
        refine lv_iinc (v := x3) (lv' := [(2, .int x3), (0, .ref (adr k)), (1, .int v1)]) hx hb dX0_placeOf_24 hl (k := 2) rfl (by rw [ex3]; rfl) (by decide) rfl (fun ls hl => ?_)
        refine lv_goto (tgt := 2) hx hb dX0_placeOf_27 (by decide) ?_
        exact ih v1 x3 t1 _ _ _ h hP hS (lv_sub hl [1, 2, 0] rfl)
      · replace h := h.2 c9
        refine lv_iload_n hx hb dX0_placeOf_22 rfl (lv_at hl 2 rfl) ?_
        exact fr_iret C hP hS h dX0_placeOf_23

set_option maxHeartbeats 4000000 in
set_option maxRecDepth 100000 in
theorem c_X0_placeOf (l : Launch) (D : va_G) (adr : Nat → Nat) (cs : Nat → ClassId) {N : Nat} (hN : 53 ≤ N) (t : fcS) (k : Nat) (hk : fisL k) (a0 : Int32) (post : Int32 → fcS → Prop) (h : q_X0_placeOf t k a0 post) : Met l yX0_placeOf wm_X0_placeOf ({ frames := 1, cells := 0, slots := 0, locals := 21 } : Room) (fcPre D adr cs N t [.ref (adr k), .int a0]) (fQi D adr cs N post) 0 0 (faN adr N) := by
  refine f_enter (cc := cX0_placeOf) (nL := 3) (ret := some .int) (lv := [(0, .ref (adr k)), (1, .int a0)]) (own := RX0) (by decide) rfl (Nat.le_of_ble_eq_true rfl) rfl rfl ?_
  intro p e s m below meth c ls C hP hS hl
  have hx := C.1.1
  have hb := C.1.2.1
  unfold q_X0_placeOf at h
  refine lv_iconst (v := 0) hx hb dX0_placeOf_0 (by decide) ?_
  refine lv_istore_n (lv' := [(2, .int 0), (0, .ref (adr k)), (1, .int a0)]) hx hb dX0_placeOf_1 rfl hl (by decide) rfl (fun ls hl => ?_)
  obtain ⟨n9, h⟩ := h
  exact k_X0_placeOf_2 hN C k hk n9 a0 0 t _ _ _ h hP hS (lv_sub hl [1, 2, 0] rfl)

/-! X0.oppositeOf -/
abbrev wm_X0_oppositeOf : List Cond := Cond.code yX0_oppositeOf cX0_oppositeOf 2 (some .int) :: wsL_law
def q_X0_oppositeOf (t : fcS) (k : Nat) (a0 : Int32) (post : Int32 → fcS → Prop) : Prop := q_X0_uOf t k a0 (fun (r2 : Int32) (t1 : fcS) => q_X0_vOf t1 k a0 (fun (r4 : Int32) (t3 : fcS) => q_X3_difference t3 0 r4 (fun (r6 : Int32) (t5 : fcS) => q_X0_keyOf t5 k r2 r6 (fun (r8 : Int32) (t7 : fcS) => post r8 t7))))
set_option maxHeartbeats 4000000 in
set_option maxRecDepth 100000 in
theorem c_X0_oppositeOf (l : Launch) (D : va_G) (adr : Nat → Nat) (cs : Nat → ClassId) {N : Nat} (hN : 53 ≤ N) (t : fcS) (k : Nat) (hk : fisL k) (a0 : Int32) (post : Int32 → fcS → Prop) (h : q_X0_oppositeOf t k a0 post) : Met l yX0_oppositeOf wm_X0_oppositeOf ({ frames := 1, cells := 0, slots := 0, locals := 27 } : Room) (fcPre D adr cs N t [.ref (adr k), .int a0]) (fQi D adr cs N post) 0 0 (faN adr N) := by
  refine f_enter (cc := cX0_oppositeOf) (nL := 2) (ret := some .int) (lv := [(0, .ref (adr k)), (1, .int a0)]) (own := RX0) (by decide) rfl (Nat.le_of_ble_eq_true rfl) rfl rfl ?_
  intro p e s m below meth c ls C hP hS hl
  have hx := C.1.1
  have hb := C.1.2.1
  unfold q_X0_oppositeOf at h
  refine lv_aload_n hx hb dX0_oppositeOf_0 rfl (lv_at hl 0 rfl) ?_
  refine lv_aload_n hx hb dX0_oppositeOf_1 rfl (lv_at hl 0 rfl) ?_
  refine lv_iload_n hx hb dX0_oppositeOf_2 rfl (lv_at hl 1 rfl) ?_
  refine fr_ci (fr_runV (n := 1) (rest := [.ref (adr k)]) C (c_X0_uOf l D adr cs hN t k hk a0 _ h) hP hS (by have := hk.2.1; omega) (fG_CL adr cs t hk) rfl (fgV mw_30_20 mw_29_20 mw_29_21 mw_3_5 mw_29_22) rfl rfl rfl (by decide +kernel) ⟨Nat.le_of_ble_eq_true rfl, Nat.le_of_ble_eq_true rfl⟩ rfl hl.1 rfl (Nat.le_of_ble_eq_true rfl) dX0_oppositeOf_3) hS (fun r2 t1 H locs h hP hS => ?_)
  refine lv_aload_n hx hb dX0_oppositeOf_6 rfl (lv_at hl 0 rfl) ?_
  refine fr_get (j := 0) C hP (by have := hk.2.1; omega) (fG_CL adr cs t1 hk) rfl (fun w h => List.mem_cons_of_mem _ (inl_X0 w h)) (by decide) rfl (List.mem_cons_of_mem _ mw_3_13) rfl dX0_oppositeOf_7 ?_
  refine lv_iconst (v := 0) hx hb dX0_oppositeOf_10 (by decide) ?_
  refine lv_aload_n hx hb dX0_oppositeOf_11 rfl (lv_at hl 0 rfl) ?_
  refine lv_iload_n hx hb dX0_oppositeOf_12 rfl (lv_at hl 1 rfl) ?_
  refine fr_ci (fr_runV (n := 1) (rest := [.int 0, .ref (adr 1), .int r2, .ref (adr k)]) C (c_X0_vOf l D adr cs hN t1 k hk a0 _ h) hP hS (by have := hk.2.1; omega) (fG_CL adr cs t1 hk) rfl (fgV mw_30_21 mw_30_0 mw_30_1 mw_3_5 mw_30_2) rfl rfl rfl (by decide +kernel) ⟨Nat.le_of_ble_eq_true rfl, Nat.le_of_ble_eq_true rfl⟩ rfl hl.1 rfl (Nat.le_of_ble_eq_true rfl) dX0_oppositeOf_13) hS (fun r4 t3 H locs h hP hS => ?_)
  refine fr_ci (fr_runV (n := 2) (rest := [.int r2, .ref (adr k)]) C (c_X3_difference l D adr cs hN t3 0 r4 _ h) hP hS (by omega) (fG_PO adr cs t3) rfl (fgV mw_31_8 mw_6_1 mw_6_2 mw_1_14 mw_6_3) rfl rfl rfl (by decide +kernel) ⟨Nat.le_of_ble_eq_true rfl, Nat.le_of_ble_eq_true rfl⟩ rfl hl.1 rfl (Nat.le_of_ble_eq_true rfl) dX0_oppositeOf_16) hS (fun r6 t5 H locs h hP hS => ?_)
  refine fr_ci (fr_runV (n := 2) (rest := []) C (c_X0_keyOf l D adr cs hN t5 k hk r2 r6 _ h) hP hS (by have := hk.2.1; omega) (fG_CL adr cs t5 hk) rfl (fgV mw_28_18 mw_28_19 mw_28_20 mw_3_5 mw_28_21) rfl rfl rfl (by decide +kernel) ⟨Nat.le_of_ble_eq_true rfl, Nat.le_of_ble_eq_true rfl⟩ rfl hl.1 rfl (Nat.le_of_ble_eq_true rfl) dX0_oppositeOf_19) hS (fun r8 t7 H locs h hP hS => ?_)
  exact fr_iret C hP hS h dX0_oppositeOf_22

/-! X0.reduced -/
abbrev wm_X0_reduced : List Cond := Cond.code yX0_reduced cX0_reduced 6 (some .int) :: wsL_law
def q_X0_reduced_8 (k : Nat) (post : Int32 → fcS → Prop) : Nat → Int32 → Int32 → Int32 → fcS → Prop
  | 0, _, _, _, _ => False
  | n + 1, v3, v4, v5, t => (20 ≤ v5 → (q_X0_keyOf t k v3 v4 (fun (r2 : Int32) (t1 : fcS) => post r2 t1))) ∧ (¬ 20 ≤ v5 → (q_X3_degree t v3 (fun (r4 : Int32) (t3 : fcS) => (r4 ≤ (fgi t3 k 3) → (q_X0_keyOf t3 k v3 v4 (fun (r6 : Int32) (t5 : fcS) => post r6 t5))) ∧ (¬ r4 ≤ (fgi t3 k 3) → (q_X3_product t3 v4 v4 (fun (r8 : Int32) (t7 : fcS) => q_X3_difference t7 ((fgi t3 k 2)) r8 (fun (r10 : Int32) (t9 : fcS) => q_X3_quotient t9 r10 v3 (fun (r12 : Int32) (t11 : fcS) => q_X3_monic t11 r12 (fun (r14 : Int32) (t13 : fcS) => q_X3_difference t13 0 v4 (fun (r16 : Int32) (t15 : fcS) => q_X3_rest t15 r16 r14 (fun (r18 : Int32) (t17 : fcS) => ∀ x19 : Int32, x19 = v5 + 1 → (q_X0_reduced_8 k post n r14 r18 x19 t17))))))))))))
def q_X0_reduced (t : fcS) (k : Nat) (a0 : Int32) (a1 : Int32) (post : Int32 → fcS → Prop) : Prop := ∃ n0, q_X0_reduced_8 k post n0 a0 a1 0 t
set_option maxHeartbeats 4000000 in
set_option maxRecDepth 100000 in
theorem k_X0_reduced_8 {D : va_G} {adr : Nat → Nat} {cs : Nat → ClassId} {N : Nat} (hN : 53 ≤ N) {p : Program} {l : Launch} {e : Env} {s : State} {m : MethodId} {args : Array Value} {below : List Frame} {meth : Method} {c : Code} (C : fCx D adr cs N p s m args meth c cX0_reduced 6 (some .int) RX0 wm_X0_reduced) (k : Nat) (hk : fisL k) {post : Int32 → fcS → Prop} : ∀ (n : Nat) (v3 : Int32) (v4 : Int32) (v5 : Int32) (t : fcS) (H : Heap) (locs : List Loc) (ls : Array Slot), q_X0_reduced_8 k post n v3 v4 v5 t → va_P D vwCl (fwl adr N (fG adr cs t)) H → va_S (faN adr N) s.heap H locs → lv_has ls 6 [(0, .ref (adr k)), (3, .int v3), (4, .int v4), (5, .int v5)] → W p l e ({ frames := 2, cells := 0, slots := 0, locals := 55 } : Room) s m args below meth c H locs 0 0 (MQ below (fQi D adr cs N post) args s 0 0 (faN adr N)) (F0 m 8 ls []) := by
  have hx := C.1.1
  have hb := C.1.2.1
  intro n
  induction n with
  | zero => intro v3 v4 v5 t H locs ls h; exact False.elim h
  | succ n ih =>
    intro v3 v4 v5 t H locs ls h hP hS hl
    unfold q_X0_reduced_8 at h
    refine lv_iload hx hb dX0_reduced_8 (lv_at hl 3 rfl) ?_
    refine lv_bipush (v := 20) hx hb dX0_reduced_10 (by decide) ?_
    refine lv_icmp_ge (tgt := 94) hx hb dX0_reduced_12 (by decide) (fun c9 => ?_) (fun c9 => ?_)
    · replace h := h.1 c9
      refine lv_aload_n hx hb dX0_reduced_94 rfl (lv_at hl 0 rfl) ?_
      refine lv_iload_n hx hb dX0_reduced_95 rfl (lv_at hl 1 rfl) ?_
      refine lv_iload hx hb dX0_reduced_96 (lv_at hl 2 rfl) ?_
      refine fr_ci (fr_runV (n := 2) (rest := []) C (c_X0_keyOf l D adr cs hN t k hk v3 v4 _ h) hP hS (by have := hk.2.1; omega) (fG_CL adr cs t hk) rfl (fgV mw_28_18 mw_28_19 mw_28_20 mw_3_5 mw_28_21) rfl rfl rfl (by decide +kernel) ⟨Nat.le_of_ble_eq_true rfl, Nat.le_of_ble_eq_true rfl⟩ rfl hl.1 rfl (Nat.le_of_ble_eq_true rfl) dX0_reduced_98) hS (fun r2 t1 H locs h hP hS => ?_)
      exact fr_iret C hP hS h dX0_reduced_101
    · replace h := h.2 c9
      refine lv_aload_n hx hb dX0_reduced_15 rfl (lv_at hl 0 rfl) ?_
      refine fr_get (j := 0) C hP (by have := hk.2.1; omega) (fG_CL adr cs t hk) rfl (fun w h => List.mem_cons_of_mem _ (inl_X0 w h)) (by decide) rfl (List.mem_cons_of_mem _ mw_3_13) rfl dX0_reduced_16 ?_
      refine lv_iload_n hx hb dX0_reduced_19 rfl (lv_at hl 1 rfl) ?_
      refine fr_ci (fr_runV (n := 1) (rest := []) C (c_X3_degree l D adr cs hN t v3 _ h) hP hS (by omega) (fG_PO adr cs t) rfl (fgV mw_31_15 mw_5_5 mw_5_6 mw_1_14 mw_5_7) rfl rfl rfl (by decide +kernel) ⟨Nat.le_of_ble_eq_true rfl, Nat.le_of_ble_eq_true rfl⟩ rfl hl.1 rfl (Nat.le_of_ble_eq_true rfl) dX0_reduced_20) hS (fun r4 t3 H locs h hP hS => ?_)
      refine lv_aload_n hx hb dX0_reduced_23 rfl (lv_at hl 0 rfl) ?_
      refine fr_get (j := 3) C hP (by have := hk.2.1; omega) (fG_CL adr cs t3 hk) rfl (fun w h => List.mem_cons_of_mem _ (inl_X0 w h)) (by decide) rfl (List.mem_cons_of_mem _ mw_3_12) rfl dX0_reduced_24 ?_
      refine lv_icmp_le (tgt := 94) hx hb dX0_reduced_27 (by decide) (fun c9 => ?_) (fun c9 => ?_)
      · replace h := h.1 c9
        refine lv_aload_n hx hb dX0_reduced_94 rfl (lv_at hl 0 rfl) ?_
        refine lv_iload_n hx hb dX0_reduced_95 rfl (lv_at hl 1 rfl) ?_
        refine lv_iload hx hb dX0_reduced_96 (lv_at hl 2 rfl) ?_
        refine fr_ci (fr_runV (n := 2) (rest := []) C (c_X0_keyOf l D adr cs hN t3 k hk v3 v4 _ h) hP hS (by have := hk.2.1; omega) (fG_CL adr cs t3 hk) rfl (fgV mw_28_18 mw_28_19 mw_28_20 mw_3_5 mw_28_21) rfl rfl rfl (by decide +kernel) ⟨Nat.le_of_ble_eq_true rfl, Nat.le_of_ble_eq_true rfl⟩ rfl hl.1 rfl (Nat.le_of_ble_eq_true rfl) dX0_reduced_98) hS (fun r6 t5 H locs h hP hS => ?_)
        exact fr_iret C hP hS h dX0_reduced_101
      · replace h := h.2 c9
        refine lv_aload_n hx hb dX0_reduced_30 rfl (lv_at hl 0 rfl) ?_
        refine fr_get (j := 0) C hP (by have := hk.2.1; omega) (fG_CL adr cs t3 hk) rfl (fun w h => List.mem_cons_of_mem _ (inl_X0 w h)) (by decide) rfl (List.mem_cons_of_mem _ mw_3_13) rfl dX0_reduced_31 ?_
        refine lv_aload_n hx hb dX0_reduced_34 rfl (lv_at hl 0 rfl) ?_
        refine fr_get (j := 0) C hP (by have := hk.2.1; omega) (fG_CL adr cs t3 hk) rfl (fun w h => List.mem_cons_of_mem _ (inl_X0 w h)) (by decide) rfl (List.mem_cons_of_mem _ mw_3_13) rfl dX0_reduced_35 ?_
        refine lv_aload_n hx hb dX0_reduced_38 rfl (lv_at hl 0 rfl) ?_
        refine fr_get (j := 0) C hP (by have := hk.2.1; omega) (fG_CL adr cs t3 hk) rfl (fun w h => List.mem_cons_of_mem _ (inl_X0 w h)) (by decide) rfl (List.mem_cons_of_mem _ mw_3_13) rfl dX0_reduced_39 ?_
        refine lv_aload_n hx hb dX0_reduced_42 rfl (lv_at hl 0 rfl) ?_
        refine fr_get (j := 2) C hP (by have := hk.2.1; omega) (fG_CL adr cs t3 hk) rfl (fun w h => List.mem_cons_of_mem _ (inl_X0 w h)) (by decide) rfl (List.mem_cons_of_mem _ mw_17_19) rfl dX0_reduced_43 ?_
        refine lv_aload_n hx hb dX0_reduced_46 rfl (lv_at hl 0 rfl) ?_
        refine fr_get (j := 0) C hP (by have := hk.2.1; omega) (fG_CL adr cs t3 hk) rfl (fun w h => List.mem_cons_of_mem _ (inl_X0 w h)) (by decide) rfl (List.mem_cons_of_mem _ mw_3_13) rfl dX0_reduced_47 ?_
        refine lv_iload hx hb dX0_reduced_50 (lv_at hl 2 rfl) ?_
        refine lv_iload hx hb dX0_reduced_52 (lv_at hl 2 rfl) ?_
        refine fr_ci (fr_runV (n := 2) (rest := [.int ((fgi t3 k 2)), .ref (adr 1), .ref (adr 1), .ref (adr 1)]) C (c_X3_product l D adr cs hN t3 v4 v4 _ h) hP hS (by omega) (fG_PO adr cs t3) rfl (fgV mw_31_7 mw_6_11 mw_6_12 mw_1_14 mw_6_13) rfl rfl rfl (by decide +kernel) ⟨Nat.le_of_ble_eq_true rfl, Nat.le_of_ble_eq_true rfl⟩ rfl hl.1 rfl (Nat.le_of_ble_eq_true rfl) dX0_reduced_54) hS (fun r8 t7 H locs h hP hS => ?_)
        refine fr_ci (fr_runV (n := 2) (rest := [.ref (adr 1), .ref (adr 1)]) C (c_X3_difference l D adr cs hN t7 ((fgi t3 k 2)) r8 _ h) hP hS (by omega) (fG_PO adr cs t7) rfl (fgV mw_31_8 mw_6_1 mw_6_2 mw_1_14 mw_6_3) rfl rfl rfl (by decide +kernel) ⟨Nat.le_of_ble_eq_true rfl, Nat.le_of_ble_eq_true rfl⟩ rfl hl.1 rfl (Nat.le_of_ble_eq_true rfl) dX0_reduced_57) hS (fun r10 t9 H locs h hP hS => ?_)
        refine lv_iload_n hx hb dX0_reduced_60 rfl (lv_at hl 1 rfl) ?_
        refine fr_ci (fr_runV (n := 2) (rest := [.ref (adr 1)]) C (c_X3_quotient l D adr cs hN t9 r10 v3 _ h) hP hS (by omega) (fG_PO adr cs t9) rfl (fgV mw_31_9 mw_31_4 mw_31_5 mw_1_14 mw_31_6) rfl rfl rfl (by decide +kernel) ⟨Nat.le_of_ble_eq_true rfl, Nat.le_of_ble_eq_true rfl⟩ rfl hl.1 rfl (Nat.le_of_ble_eq_true rfl) dX0_reduced_61) hS (fun r12 t11 H locs h hP hS => ?_)
        refine fr_ci (fr_runV (n := 1) (rest := []) C (c_X3_monic l D adr cs hN t11 r12 _ h) hP hS (by omega) (fG_PO adr cs t11) rfl (fgV mw_31_16 mw_16_17 mw_16_18 mw_1_14 mw_16_19) rfl rfl rfl (by decide +kernel) ⟨Nat.le_of_ble_eq_true rfl, Nat.le_of_ble_eq_true rfl⟩ rfl hl.1 rfl (Nat.le_of_ble_eq_true rfl) dX0_reduced_64) hS (fun r14 t13 H locs h hP hS => ?_)
        refine lv_istore_n (lv' := [(3, .int r14), (0, .ref (adr k)), (4, .int v4), (5, .int v5)]) hx hb dX0_reduced_67 rfl hl (by decide) rfl (fun ls hl => ?_)
        refine lv_aload_n hx hb dX0_reduced_68 rfl (lv_at hl 1 rfl) ?_
        refine fr_get (j := 0) C hP (by have := hk.2.1; omega) (fG_CL adr cs t13 hk) rfl (fun w h => List.mem_cons_of_mem _ (inl_X0 w h)) (by decide) rfl (List.mem_cons_of_mem _ mw_3_13) rfl dX0_reduced_69 ?_
        refine lv_aload_n hx hb dX0_reduced_72 rfl (lv_at hl 1 rfl) ?_
        refine fr_get (j := 0) C hP (by have := hk.2.1; omega) (fG_CL adr cs t13 hk) rfl (fun w h => List.mem_cons_of_mem _ (inl_X0 w h)) (by decide) rfl (List.mem_cons_of_mem _ mw_3_13) rfl dX0_reduced_73 ?_
        refine lv_iconst (v := 0) hx hb dX0_reduced_76 (by decide) ?_
        refine lv_iload hx hb dX0_reduced_77 (lv_at hl 2 rfl) ?_
        refine fr_ci (fr_runV (n := 2) (rest := [.ref (adr 1)]) C (c_X3_difference l D adr cs hN t13 0 v4 _ h) hP hS (by omega) (fG_PO adr cs t13) rfl (fgV mw_31_8 mw_6_1 mw_6_2 mw_1_14 mw_6_3) rfl rfl rfl (by decide +kernel) ⟨Nat.le_of_ble_eq_true rfl, Nat.le_of_ble_eq_true rfl⟩ rfl hl.1 rfl (Nat.le_of_ble_eq_true rfl) dX0_reduced_79) hS (fun r16 t15 H locs h hP hS => ?_)
        refine lv_iload_n hx hb dX0_reduced_82 rfl (lv_at hl 0 rfl) ?_
        refine fr_ci (fr_runV (n := 2) (rest := []) C (c_X3_rest l D adr cs hN t15 r16 r14 _ h) hP hS (by omega) (fG_PO adr cs t15) rfl (fgV mw_27_9 mw_5_1 mw_5_2 mw_1_14 mw_5_3) rfl rfl rfl (by decide +kernel) ⟨Nat.le_of_ble_eq_true rfl, Nat.le_of_ble_eq_true rfl⟩ rfl hl.1 rfl (Nat.le_of_ble_eq_true rfl) dX0_reduced_83) hS (fun r18 t17 H locs h hP hS => ?_)
        refine lv_istore (lv' := [(4, .int r18), (3, .int r14), (0, .ref (adr k)), (5, .int v5)]) hx hb dX0_reduced_86 hl (by decide) rfl (fun ls hl => ?_)
        obtain ⟨x19, ex19⟩ : ∃ y : Int32, y = v5 + 1 := ⟨_, rfl⟩
        replace h := h x19 ex19
        refine lv_iinc (v := x19) (lv' := [(5, .int x19), (4, .int r18), (3, .int r14), (0, .ref (adr k))]) hx hb dX0_reduced_88 hl (k := 3) rfl (by rw [ex19]; rfl) (by decide) rfl (fun ls hl => ?_)
        refine lv_goto (tgt := 8) hx hb dX0_reduced_91 (by decide) ?_
        exact ih r14 r18 x19 t17 _ _ _ h hP hS (lv_sub hl [3, 2, 1, 0] rfl)

set_option maxHeartbeats 4000000 in
set_option maxRecDepth 100000 in
theorem c_X0_reduced (l : Launch) (D : va_G) (adr : Nat → Nat) (cs : Nat → ClassId) {N : Nat} (hN : 53 ≤ N) (t : fcS) (k : Nat) (hk : fisL k) (a0 : Int32) (a1 : Int32) (post : Int32 → fcS → Prop) (h : q_X0_reduced t k a0 a1 post) : Met l yX0_reduced wm_X0_reduced ({ frames := 2, cells := 0, slots := 0, locals := 55 } : Room) (fcPre D adr cs N t [.ref (adr k), .int a0, .int a1]) (fQi D adr cs N post) 0 0 (faN adr N) := by
  refine f_enter (cc := cX0_reduced) (nL := 6) (ret := some .int) (lv := [(0, .ref (adr k)), (1, .int a0), (2, .int a1)]) (own := RX0) (by decide) rfl (Nat.le_of_ble_eq_true rfl) rfl rfl ?_
  intro p e s m below meth c ls C hP hS hl
  have hx := C.1.1
  have hb := C.1.2.1
  unfold q_X0_reduced at h
  refine lv_iload_n hx hb dX0_reduced_0 rfl (lv_at hl 1 rfl) ?_
  refine lv_istore_n (lv' := [(3, .int a0), (0, .ref (adr k)), (1, .int a0), (2, .int a1)]) hx hb dX0_reduced_1 rfl hl (by decide) rfl (fun ls hl => ?_)
  refine lv_iload_n hx hb dX0_reduced_2 rfl (lv_at hl 3 rfl) ?_
  refine lv_istore (lv' := [(4, .int a1), (3, .int a0), (0, .ref (adr k)), (1, .int a0), (2, .int a1)]) hx hb dX0_reduced_3 hl (by decide) rfl (fun ls hl => ?_)
  refine lv_iconst (v := 0) hx hb dX0_reduced_5 (by decide) ?_
  refine lv_istore (lv' := [(5, .int 0), (4, .int a1), (3, .int a0), (0, .ref (adr k)), (1, .int a0), (2, .int a1)]) hx hb dX0_reduced_6 hl (by decide) rfl (fun ls hl => ?_)
  obtain ⟨n9, h⟩ := h
  exact k_X0_reduced_8 hN C k hk n9 a0 a1 0 t _ _ _ h hP hS (lv_sub hl [3, 2, 1, 0] rfl)

/-! X0.sumOf -/
abbrev wm_X0_sumOf : List Cond := Cond.code yX0_sumOf cX0_sumOf 18 (some .int) :: wsL_law
def q_X0_sumOf (t : fcS) (k : Nat) (a0 : Int32) (a1 : Int32) (post : Int32 → fcS → Prop) : Prop := q_X0_uOf t k a0 (fun (r2 : Int32) (t1 : fcS) => q_X0_vOf t1 k a0 (fun (r4 : Int32) (t3 : fcS) => q_X0_uOf t3 k a1 (fun (r6 : Int32) (t5 : fcS) => q_X0_vOf t5 k a1 (fun (r8 : Int32) (t7 : fcS) => q_X3_commonDivisor t7 r2 r6 (fun (r10 : Int32) (t9 : fcS) => q_X3_cofactor t9 r2 r6 (fun (r12 : Int32) (t11 : fcS) => q_X3_product t11 r12 r2 (fun (r14 : Int32) (t13 : fcS) => q_X3_difference t13 r10 r14 (fun (r16 : Int32) (t15 : fcS) => q_X3_quotient t15 r16 r6 (fun (r18 : Int32) (t17 : fcS) => q_X3_sum t17 r4 r8 (fun (r20 : Int32) (t19 : fcS) => q_X3_commonDivisor t19 r10 r20 (fun (r22 : Int32) (t21 : fcS) => q_X3_cofactor t21 r10 r20 (fun (r24 : Int32) (t23 : fcS) => q_X3_product t23 r24 r10 (fun (r26 : Int32) (t25 : fcS) => q_X3_difference t25 r22 r26 (fun (r28 : Int32) (t27 : fcS) => q_X3_quotient t27 r28 r20 (fun (r30 : Int32) (t29 : fcS) => q_X3_product t29 r12 r2 (fun (r32 : Int32) (t31 : fcS) => q_X3_product t31 r32 r8 (fun (r34 : Int32) (t33 : fcS) => q_X3_product t33 r18 r6 (fun (r36 : Int32) (t35 : fcS) => q_X3_product t35 r36 r4 (fun (r38 : Int32) (t37 : fcS) => q_X3_sum t37 r34 r38 (fun (r40 : Int32) (t39 : fcS) => q_X3_product t39 r4 r8 (fun (r42 : Int32) (t41 : fcS) => q_X3_sum t41 r42 ((fgi t41 k 2)) (fun (r44 : Int32) (t43 : fcS) => q_X3_product t43 r24 r40 (fun (r46 : Int32) (t45 : fcS) => q_X3_product t45 r30 r44 (fun (r48 : Int32) (t47 : fcS) => q_X3_sum t47 r46 r48 (fun (r50 : Int32) (t49 : fcS) => q_X3_product t49 r2 r6 (fun (r52 : Int32) (t51 : fcS) => q_X3_product t51 r22 r22 (fun (r54 : Int32) (t53 : fcS) => q_X3_quotient t53 r52 r54 (fun (r56 : Int32) (t55 : fcS) => q_X3_quotient t55 r50 r22 (fun (r58 : Int32) (t57 : fcS) => q_X3_rest t57 r58 r56 (fun (r60 : Int32) (t59 : fcS) => q_X0_reduced t59 k r56 r60 (fun (r62 : Int32) (t61 : fcS) => post r62 t61)))))))))))))))))))))))))))))))
set_option maxHeartbeats 4000000 in
set_option maxRecDepth 100000 in
theorem c_X0_sumOf (l : Launch) (D : va_G) (adr : Nat → Nat) (cs : Nat → ClassId) {N : Nat} (hN : 53 ≤ N) (t : fcS) (k : Nat) (hk : fisL k) (a0 : Int32) (a1 : Int32) (post : Int32 → fcS → Prop) (h : q_X0_sumOf t k a0 a1 post) : Met l yX0_sumOf wm_X0_sumOf ({ frames := 3, cells := 0, slots := 0, locals := 85 } : Room) (fcPre D adr cs N t [.ref (adr k), .int a0, .int a1]) (fQi D adr cs N post) 0 0 (faN adr N) := by
  refine f_enter (cc := cX0_sumOf) (nL := 18) (ret := some .int) (lv := [(0, .ref (adr k)), (1, .int a0), (2, .int a1)]) (own := RX0) (by decide) rfl (Nat.le_of_ble_eq_true rfl) rfl rfl ?_
  intro p e s m below meth c ls C hP hS hl
  have hx := C.1.1
  have hb := C.1.2.1
  unfold q_X0_sumOf at h
  refine lv_aload_n hx hb dX0_sumOf_0 rfl (lv_at hl 0 rfl) ?_
  refine lv_iload_n hx hb dX0_sumOf_1 rfl (lv_at hl 1 rfl) ?_
  refine fr_ci (fr_runV (n := 1) (rest := []) C (c_X0_uOf l D adr cs hN t k hk a0 _ h) hP hS (by have := hk.2.1; omega) (fG_CL adr cs t hk) rfl (fgV mw_30_20 mw_29_20 mw_29_21 mw_3_5 mw_29_22) rfl rfl rfl (by decide +kernel) ⟨Nat.le_of_ble_eq_true rfl, Nat.le_of_ble_eq_true rfl⟩ rfl hl.1 rfl (Nat.le_of_ble_eq_true rfl) dX0_sumOf_2) hS (fun r2 t1 H locs h hP hS => ?_)
  refine lv_istore_n (lv' := [(3, .int r2), (0, .ref (adr k)), (1, .int a0), (2, .int a1)]) hx hb dX0_sumOf_5 rfl hl (by decide) rfl (fun ls hl => ?_)
  refine lv_aload_n hx hb dX0_sumOf_6 rfl (lv_at hl 1 rfl) ?_
  refine lv_iload_n hx hb dX0_sumOf_7 rfl (lv_at hl 2 rfl) ?_
  refine fr_ci (fr_runV (n := 1) (rest := []) C (c_X0_vOf l D adr cs hN t1 k hk a0 _ h) hP hS (by have := hk.2.1; omega) (fG_CL adr cs t1 hk) rfl (fgV mw_30_21 mw_30_0 mw_30_1 mw_3_5 mw_30_2) rfl rfl rfl (by decide +kernel) ⟨Nat.le_of_ble_eq_true rfl, Nat.le_of_ble_eq_true rfl⟩ rfl hl.1 rfl (Nat.le_of_ble_eq_true rfl) dX0_sumOf_8) hS (fun r4 t3 H locs h hP hS => ?_)
  refine lv_istore (lv' := [(4, .int r4), (3, .int r2), (0, .ref (adr k)), (1, .int a0), (2, .int a1)]) hx hb dX0_sumOf_11 hl (by decide) rfl (fun ls hl => ?_)
  refine lv_aload_n hx hb dX0_sumOf_13 rfl (lv_at hl 2 rfl) ?_
  refine lv_iload_n hx hb dX0_sumOf_14 rfl (lv_at hl 4 rfl) ?_
  refine fr_ci (fr_runV (n := 1) (rest := []) C (c_X0_uOf l D adr cs hN t3 k hk a1 _ h) hP hS (by have := hk.2.1; omega) (fG_CL adr cs t3 hk) rfl (fgV mw_30_20 mw_29_20 mw_29_21 mw_3_5 mw_29_22) rfl rfl rfl (by decide +kernel) ⟨Nat.le_of_ble_eq_true rfl, Nat.le_of_ble_eq_true rfl⟩ rfl hl.1 rfl (Nat.le_of_ble_eq_true rfl) dX0_sumOf_15) hS (fun r6 t5 H locs h hP hS => ?_)
  refine lv_istore (lv' := [(5, .int r6), (4, .int r4), (3, .int r2), (0, .ref (adr k)), (1, .int a0), (2, .int a1)]) hx hb dX0_sumOf_18 hl (by decide) rfl (fun ls hl => ?_)
  refine lv_aload_n hx hb dX0_sumOf_20 rfl (lv_at hl 3 rfl) ?_
  refine lv_iload_n hx hb dX0_sumOf_21 rfl (lv_at hl 5 rfl) ?_
  refine fr_ci (fr_runV (n := 1) (rest := []) C (c_X0_vOf l D adr cs hN t5 k hk a1 _ h) hP hS (by have := hk.2.1; omega) (fG_CL adr cs t5 hk) rfl (fgV mw_30_21 mw_30_0 mw_30_1 mw_3_5 mw_30_2) rfl rfl rfl (by decide +kernel) ⟨Nat.le_of_ble_eq_true rfl, Nat.le_of_ble_eq_true rfl⟩ rfl hl.1 rfl (Nat.le_of_ble_eq_true rfl) dX0_sumOf_22) hS (fun r8 t7 H locs h hP hS => ?_)
  refine lv_istore (lv' := [(6, .int r8), (5, .int r6), (4, .int r4), (3, .int r2), (0, .ref (adr k)), (1, .int a0), (2, .int a1)]) hx hb dX0_sumOf_25 hl (by decide) rfl (fun ls hl => ?_)
  refine lv_aload_n hx hb dX0_sumOf_27 rfl (lv_at hl 4 rfl) ?_
  refine fr_get (j := 0) C hP (by have := hk.2.1; omega) (fG_CL adr cs t7 hk) rfl (fun w h => List.mem_cons_of_mem _ (inl_X0 w h)) (by decide) rfl (List.mem_cons_of_mem _ mw_3_13) rfl dX0_sumOf_28 ?_
  refine lv_iload_n hx hb dX0_sumOf_31 rfl (lv_at hl 3 rfl) ?_
  refine lv_iload hx hb dX0_sumOf_32 (lv_at hl 1 rfl) ?_
  refine fr_ci (fr_runV (n := 2) (rest := []) C (c_X3_commonDivisor l D adr cs hN t7 r2 r6 _ h) hP hS (by omega) (fG_PO adr cs t7) rfl (fgV mw_30_22 mw_16_13 mw_16_14 mw_1_14 mw_16_15) rfl rfl rfl (by decide +kernel) ⟨Nat.le_of_ble_eq_true rfl, Nat.le_of_ble_eq_true rfl⟩ rfl hl.1 rfl (Nat.le_of_ble_eq_true rfl) dX0_sumOf_34) hS (fun r10 t9 H locs h hP hS => ?_)
  refine lv_istore (lv' := [(7, .int r10), (6, .int r8), (5, .int r6), (4, .int r4), (3, .int r2), (0, .ref (adr k)), (1, .int a0), (2, .int a1)]) hx hb dX0_sumOf_37 hl (by decide) rfl (fun ls hl => ?_)
  refine lv_aload_n hx hb dX0_sumOf_39 rfl (lv_at hl 5 rfl) ?_
  refine fr_get (j := 0) C hP (by have := hk.2.1; omega) (fG_CL adr cs t9 hk) rfl (fun w h => List.mem_cons_of_mem _ (inl_X0 w h)) (by decide) rfl (List.mem_cons_of_mem _ mw_3_13) rfl dX0_sumOf_40 ?_
  refine lv_iload_n hx hb dX0_sumOf_43 rfl (lv_at hl 4 rfl) ?_
  refine lv_iload hx hb dX0_sumOf_44 (lv_at hl 2 rfl) ?_
  refine fr_ci (fr_runV (n := 2) (rest := []) C (c_X3_cofactor l D adr cs hN t9 r2 r6 _ h) hP hS (by omega) (fG_PO adr cs t9) rfl (fgV mw_30_23 mw_31_0 mw_31_1 mw_1_14 mw_31_2) rfl rfl rfl (by decide +kernel) ⟨Nat.le_of_ble_eq_true rfl, Nat.le_of_ble_eq_true rfl⟩ rfl hl.1 rfl (Nat.le_of_ble_eq_true rfl) dX0_sumOf_46) hS (fun r12 t11 H locs h hP hS => ?_)
  refine lv_istore (lv' := [(8, .int r12), (7, .int r10), (6, .int r8), (5, .int r6), (4, .int r4), (3, .int r2), (0, .ref (adr k)), (1, .int a0), (2, .int a1)]) hx hb dX0_sumOf_49 hl (by decide) rfl (fun ls hl => ?_)
  refine lv_aload_n hx hb dX0_sumOf_51 rfl (lv_at hl 6 rfl) ?_
  refine fr_get (j := 0) C hP (by have := hk.2.1; omega) (fG_CL adr cs t11 hk) rfl (fun w h => List.mem_cons_of_mem _ (inl_X0 w h)) (by decide) rfl (List.mem_cons_of_mem _ mw_3_13) rfl dX0_sumOf_52 ?_
  refine lv_aload_n hx hb dX0_sumOf_55 rfl (lv_at hl 6 rfl) ?_
  refine fr_get (j := 0) C hP (by have := hk.2.1; omega) (fG_CL adr cs t11 hk) rfl (fun w h => List.mem_cons_of_mem _ (inl_X0 w h)) (by decide) rfl (List.mem_cons_of_mem _ mw_3_13) rfl dX0_sumOf_56 ?_
  refine lv_iload hx hb dX0_sumOf_59 (lv_at hl 1 rfl) ?_
  refine lv_aload_n hx hb dX0_sumOf_61 rfl (lv_at hl 6 rfl) ?_
  refine fr_get (j := 0) C hP (by have := hk.2.1; omega) (fG_CL adr cs t11 hk) rfl (fun w h => List.mem_cons_of_mem _ (inl_X0 w h)) (by decide) rfl (List.mem_cons_of_mem _ mw_3_13) rfl dX0_sumOf_62 ?_
  refine lv_iload hx hb dX0_sumOf_65 (lv_at hl 0 rfl) ?_
  refine lv_iload_n hx hb dX0_sumOf_67 rfl (lv_at hl 5 rfl) ?_
  refine fr_ci (fr_runV (n := 2) (rest := [.int r10, .ref (adr 1), .ref (adr 1)]) C (c_X3_product l D adr cs hN t11 r12 r2 _ h) hP hS (by omega) (fG_PO adr cs t11) rfl (fgV mw_31_7 mw_6_11 mw_6_12 mw_1_14 mw_6_13) rfl rfl rfl (by decide +kernel) ⟨Nat.le_of_ble_eq_true rfl, Nat.le_of_ble_eq_true rfl⟩ rfl hl.1 rfl (Nat.le_of_ble_eq_true rfl) dX0_sumOf_68) hS (fun r14 t13 H locs h hP hS => ?_)
  refine fr_ci (fr_runV (n := 2) (rest := [.ref (adr 1)]) C (c_X3_difference l D adr cs hN t13 r10 r14 _ h) hP hS (by omega) (fG_PO adr cs t13) rfl (fgV mw_31_8 mw_6_1 mw_6_2 mw_1_14 mw_6_3) rfl rfl rfl (by decide +kernel) ⟨Nat.le_of_ble_eq_true rfl, Nat.le_of_ble_eq_true rfl⟩ rfl hl.1 rfl (Nat.le_of_ble_eq_true rfl) dX0_sumOf_71) hS (fun r16 t15 H locs h hP hS => ?_)
  refine lv_iload hx hb dX0_sumOf_74 (lv_at hl 3 rfl) ?_
  refine fr_ci (fr_runV (n := 2) (rest := []) C (c_X3_quotient l D adr cs hN t15 r16 r6 _ h) hP hS (by omega) (fG_PO adr cs t15) rfl (fgV mw_31_9 mw_31_4 mw_31_5 mw_1_14 mw_31_6) rfl rfl rfl (by decide +kernel) ⟨Nat.le_of_ble_eq_true rfl, Nat.le_of_ble_eq_true rfl⟩ rfl hl.1 rfl (Nat.le_of_ble_eq_true rfl) dX0_sumOf_76) hS (fun r18 t17 H locs h hP hS => ?_)
  refine lv_istore (lv' := [(9, .int r18), (8, .int r12), (7, .int r10), (6, .int r8), (5, .int r6), (4, .int r4), (3, .int r2), (0, .ref (adr k)), (1, .int a0), (2, .int a1)]) hx hb dX0_sumOf_79 hl (by decide) rfl (fun ls hl => ?_)
  refine lv_aload_n hx hb dX0_sumOf_81 rfl (lv_at hl 7 rfl) ?_
  refine fr_get (j := 0) C hP (by have := hk.2.1; omega) (fG_CL adr cs t17 hk) rfl (fun w h => List.mem_cons_of_mem _ (inl_X0 w h)) (by decide) rfl (List.mem_cons_of_mem _ mw_3_13) rfl dX0_sumOf_82 ?_
  refine lv_iload hx hb dX0_sumOf_85 (lv_at hl 5 rfl) ?_
  refine lv_iload hx hb dX0_sumOf_87 (lv_at hl 3 rfl) ?_
  refine fr_ci (fr_runV (n := 2) (rest := []) C (c_X3_sum l D adr cs hN t17 r4 r8 _ h) hP hS (by omega) (fG_PO adr cs t17) rfl (fgV mw_31_10 mw_6_15 mw_6_16 mw_1_14 mw_6_17) rfl rfl rfl (by decide +kernel) ⟨Nat.le_of_ble_eq_true rfl, Nat.le_of_ble_eq_true rfl⟩ rfl hl.1 rfl (Nat.le_of_ble_eq_true rfl) dX0_sumOf_89) hS (fun r20 t19 H locs h hP hS => ?_)
  refine lv_istore (lv' := [(10, .int r20), (9, .int r18), (8, .int r12), (7, .int r10), (6, .int r8), (5, .int r6), (4, .int r4), (3, .int r2), (0, .ref (adr k)), (1, .int a0), (2, .int a1)]) hx hb dX0_sumOf_92 hl (by decide) rfl (fun ls hl => ?_)
  refine lv_aload_n hx hb dX0_sumOf_94 rfl (lv_at hl 8 rfl) ?_
  refine fr_get (j := 0) C hP (by have := hk.2.1; omega) (fG_CL adr cs t19 hk) rfl (fun w h => List.mem_cons_of_mem _ (inl_X0 w h)) (by decide) rfl (List.mem_cons_of_mem _ mw_3_13) rfl dX0_sumOf_95 ?_
  refine lv_iload hx hb dX0_sumOf_98 (lv_at hl 3 rfl) ?_
  refine lv_iload hx hb dX0_sumOf_100 (lv_at hl 0 rfl) ?_
  refine fr_ci (fr_runV (n := 2) (rest := []) C (c_X3_commonDivisor l D adr cs hN t19 r10 r20 _ h) hP hS (by omega) (fG_PO adr cs t19) rfl (fgV mw_30_22 mw_16_13 mw_16_14 mw_1_14 mw_16_15) rfl rfl rfl (by decide +kernel) ⟨Nat.le_of_ble_eq_true rfl, Nat.le_of_ble_eq_true rfl⟩ rfl hl.1 rfl (Nat.le_of_ble_eq_true rfl) dX0_sumOf_102) hS (fun r22 t21 H locs h hP hS => ?_)
  refine lv_istore (lv' := [(11, .int r22), (10, .int r20), (9, .int r18), (8, .int r12), (7, .int r10), (6, .int r8), (5, .int r6), (4, .int r4), (3, .int r2), (0, .ref (adr k)), (1, .int a0), (2, .int a1)]) hx hb dX0_sumOf_105 hl (by decide) rfl (fun ls hl => ?_)
  refine lv_aload_n hx hb dX0_sumOf_107 rfl (lv_at hl 9 rfl) ?_
  refine fr_get (j := 0) C hP (by have := hk.2.1; omega) (fG_CL adr cs t21 hk) rfl (fun w h => List.mem_cons_of_mem _ (inl_X0 w h)) (by decide) rfl (List.mem_cons_of_mem _ mw_3_13) rfl dX0_sumOf_108 ?_
  refine lv_iload hx hb dX0_sumOf_111 (lv_at hl 4 rfl) ?_
  refine lv_iload hx hb dX0_sumOf_113 (lv_at hl 1 rfl) ?_
  refine fr_ci (fr_runV (n := 2) (rest := []) C (c_X3_cofactor l D adr cs hN t21 r10 r20 _ h) hP hS (by omega) (fG_PO adr cs t21) rfl (fgV mw_30_23 mw_31_0 mw_31_1 mw_1_14 mw_31_2) rfl rfl rfl (by decide +kernel) ⟨Nat.le_of_ble_eq_true rfl, Nat.le_of_ble_eq_true rfl⟩ rfl hl.1 rfl (Nat.le_of_ble_eq_true rfl) dX0_sumOf_115) hS (fun r24 t23 H locs h hP hS => ?_)
  refine lv_istore (lv' := [(12, .int r24), (11, .int r22), (10, .int r20), (9, .int r18), (8, .int r12), (7, .int r10), (6, .int r8), (5, .int r6), (4, .int r4), (3, .int r2), (0, .ref (adr k)), (1, .int a0), (2, .int a1)]) hx hb dX0_sumOf_118 hl (by decide) rfl (fun ls hl => ?_)
  refine lv_aload_n hx hb dX0_sumOf_120 rfl (lv_at hl 10 rfl) ?_
  refine fr_get (j := 0) C hP (by have := hk.2.1; omega) (fG_CL adr cs t23 hk) rfl (fun w h => List.mem_cons_of_mem _ (inl_X0 w h)) (by decide) rfl (List.mem_cons_of_mem _ mw_3_13) rfl dX0_sumOf_121 ?_
  refine lv_aload_n hx hb dX0_sumOf_124 rfl (lv_at hl 10 rfl) ?_
  refine fr_get (j := 0) C hP (by have := hk.2.1; omega) (fG_CL adr cs t23 hk) rfl (fun w h => List.mem_cons_of_mem _ (inl_X0 w h)) (by decide) rfl (List.mem_cons_of_mem _ mw_3_13) rfl dX0_sumOf_125 ?_
  refine lv_iload hx hb dX0_sumOf_128 (lv_at hl 1 rfl) ?_
  refine lv_aload_n hx hb dX0_sumOf_130 rfl (lv_at hl 10 rfl) ?_
  refine fr_get (j := 0) C hP (by have := hk.2.1; omega) (fG_CL adr cs t23 hk) rfl (fun w h => List.mem_cons_of_mem _ (inl_X0 w h)) (by decide) rfl (List.mem_cons_of_mem _ mw_3_13) rfl dX0_sumOf_131 ?_
  refine lv_iload hx hb dX0_sumOf_134 (lv_at hl 0 rfl) ?_
  refine lv_iload hx hb dX0_sumOf_136 (lv_at hl 5 rfl) ?_
  refine fr_ci (fr_runV (n := 2) (rest := [.int r22, .ref (adr 1), .ref (adr 1)]) C (c_X3_product l D adr cs hN t23 r24 r10 _ h) hP hS (by omega) (fG_PO adr cs t23) rfl (fgV mw_31_7 mw_6_11 mw_6_12 mw_1_14 mw_6_13) rfl rfl rfl (by decide +kernel) ⟨Nat.le_of_ble_eq_true rfl, Nat.le_of_ble_eq_true rfl⟩ rfl hl.1 rfl (Nat.le_of_ble_eq_true rfl) dX0_sumOf_138) hS (fun r26 t25 H locs h hP hS => ?_)
  refine fr_ci (fr_runV (n := 2) (rest := [.ref (adr 1)]) C (c_X3_difference l D adr cs hN t25 r22 r26 _ h) hP hS (by omega) (fG_PO adr cs t25) rfl (fgV mw_31_8 mw_6_1 mw_6_2 mw_1_14 mw_6_3) rfl rfl rfl (by decide +kernel) ⟨Nat.le_of_ble_eq_true rfl, Nat.le_of_ble_eq_true rfl⟩ rfl hl.1 rfl (Nat.le_of_ble_eq_true rfl) dX0_sumOf_141) hS (fun r28 t27 H locs h hP hS => ?_)
  refine lv_iload hx hb dX0_sumOf_144 (lv_at hl 2 rfl) ?_
  refine fr_ci (fr_runV (n := 2) (rest := []) C (c_X3_quotient l D adr cs hN t27 r28 r20 _ h) hP hS (by omega) (fG_PO adr cs t27) rfl (fgV mw_31_9 mw_31_4 mw_31_5 mw_1_14 mw_31_6) rfl rfl rfl (by decide +kernel) ⟨Nat.le_of_ble_eq_true rfl, Nat.le_of_ble_eq_true rfl⟩ rfl hl.1 rfl (Nat.le_of_ble_eq_true rfl) dX0_sumOf_146) hS (fun r30 t29 H locs h hP hS => ?_)
  refine lv_istore (lv' := [(13, .int r30), (12, .int r24), (11, .int r22), (10, .int r20), (9, .int r18), (8, .int r12), (7, .int r10), (6, .int r8), (5, .int r6), (4, .int r4), (3, .int r2), (0, .ref (adr k)), (1, .int a0), (2, .int a1)]) hx hb dX0_sumOf_149 hl (by decide) rfl (fun ls hl => ?_)
  refine lv_aload_n hx hb dX0_sumOf_151 rfl (lv_at hl 11 rfl) ?_
  refine fr_get (j := 0) C hP (by have := hk.2.1; omega) (fG_CL adr cs t29 hk) rfl (fun w h => List.mem_cons_of_mem _ (inl_X0 w h)) (by decide) rfl (List.mem_cons_of_mem _ mw_3_13) rfl dX0_sumOf_152 ?_
  refine lv_aload_n hx hb dX0_sumOf_155 rfl (lv_at hl 11 rfl) ?_
  refine fr_get (j := 0) C hP (by have := hk.2.1; omega) (fG_CL adr cs t29 hk) rfl (fun w h => List.mem_cons_of_mem _ (inl_X0 w h)) (by decide) rfl (List.mem_cons_of_mem _ mw_3_13) rfl dX0_sumOf_156 ?_
  refine lv_aload_n hx hb dX0_sumOf_159 rfl (lv_at hl 11 rfl) ?_
  refine fr_get (j := 0) C hP (by have := hk.2.1; omega) (fG_CL adr cs t29 hk) rfl (fun w h => List.mem_cons_of_mem _ (inl_X0 w h)) (by decide) rfl (List.mem_cons_of_mem _ mw_3_13) rfl dX0_sumOf_160 ?_
  refine lv_iload hx hb dX0_sumOf_163 (lv_at hl 5 rfl) ?_
  refine lv_iload_n hx hb dX0_sumOf_165 rfl (lv_at hl 10 rfl) ?_
  refine fr_ci (fr_runV (n := 2) (rest := [.ref (adr 1), .ref (adr 1)]) C (c_X3_product l D adr cs hN t29 r12 r2 _ h) hP hS (by omega) (fG_PO adr cs t29) rfl (fgV mw_31_7 mw_6_11 mw_6_12 mw_1_14 mw_6_13) rfl rfl rfl (by decide +kernel) ⟨Nat.le_of_ble_eq_true rfl, Nat.le_of_ble_eq_true rfl⟩ rfl hl.1 rfl (Nat.le_of_ble_eq_true rfl) dX0_sumOf_166) hS (fun r32 t31 H locs h hP hS => ?_)
  refine lv_iload hx hb dX0_sumOf_169 (lv_at hl 7 rfl) ?_
  refine fr_ci (fr_runV (n := 2) (rest := [.ref (adr 1)]) C (c_X3_product l D adr cs hN t31 r32 r8 _ h) hP hS (by omega) (fG_PO adr cs t31) rfl (fgV mw_31_7 mw_6_11 mw_6_12 mw_1_14 mw_6_13) rfl rfl rfl (by decide +kernel) ⟨Nat.le_of_ble_eq_true rfl, Nat.le_of_ble_eq_true rfl⟩ rfl hl.1 rfl (Nat.le_of_ble_eq_true rfl) dX0_sumOf_171) hS (fun r34 t33 H locs h hP hS => ?_)
  refine lv_aload_n hx hb dX0_sumOf_174 rfl (lv_at hl 11 rfl) ?_
  refine fr_get (j := 0) C hP (by have := hk.2.1; omega) (fG_CL adr cs t33 hk) rfl (fun w h => List.mem_cons_of_mem _ (inl_X0 w h)) (by decide) rfl (List.mem_cons_of_mem _ mw_3_13) rfl dX0_sumOf_175 ?_
  refine lv_aload_n hx hb dX0_sumOf_178 rfl (lv_at hl 11 rfl) ?_
  refine fr_get (j := 0) C hP (by have := hk.2.1; omega) (fG_CL adr cs t33 hk) rfl (fun w h => List.mem_cons_of_mem _ (inl_X0 w h)) (by decide) rfl (List.mem_cons_of_mem _ mw_3_13) rfl dX0_sumOf_179 ?_
  refine lv_iload hx hb dX0_sumOf_182 (lv_at hl 4 rfl) ?_
  refine lv_iload hx hb dX0_sumOf_184 (lv_at hl 8 rfl) ?_
  refine fr_ci (fr_runV (n := 2) (rest := [.ref (adr 1), .int r34, .ref (adr 1)]) C (c_X3_product l D adr cs hN t33 r18 r6 _ h) hP hS (by omega) (fG_PO adr cs t33) rfl (fgV mw_31_7 mw_6_11 mw_6_12 mw_1_14 mw_6_13) rfl rfl rfl (by decide +kernel) ⟨Nat.le_of_ble_eq_true rfl, Nat.le_of_ble_eq_true rfl⟩ rfl hl.1 rfl (Nat.le_of_ble_eq_true rfl) dX0_sumOf_186) hS (fun r36 t35 H locs h hP hS => ?_)
  refine lv_iload hx hb dX0_sumOf_189 (lv_at hl 9 rfl) ?_
  refine fr_ci (fr_runV (n := 2) (rest := [.int r34, .ref (adr 1)]) C (c_X3_product l D adr cs hN t35 r36 r4 _ h) hP hS (by omega) (fG_PO adr cs t35) rfl (fgV mw_31_7 mw_6_11 mw_6_12 mw_1_14 mw_6_13) rfl rfl rfl (by decide +kernel) ⟨Nat.le_of_ble_eq_true rfl, Nat.le_of_ble_eq_true rfl⟩ rfl hl.1 rfl (Nat.le_of_ble_eq_true rfl) dX0_sumOf_191) hS (fun r38 t37 H locs h hP hS => ?_)
  refine fr_ci (fr_runV (n := 2) (rest := []) C (c_X3_sum l D adr cs hN t37 r34 r38 _ h) hP hS (by omega) (fG_PO adr cs t37) rfl (fgV mw_31_10 mw_6_15 mw_6_16 mw_1_14 mw_6_17) rfl rfl rfl (by decide +kernel) ⟨Nat.le_of_ble_eq_true rfl, Nat.le_of_ble_eq_true rfl⟩ rfl hl.1 rfl (Nat.le_of_ble_eq_true rfl) dX0_sumOf_194) hS (fun r40 t39 H locs h hP hS => ?_)
  refine lv_istore (lv' := [(14, .int r40), (13, .int r30), (12, .int r24), (11, .int r22), (10, .int r20), (9, .int r18), (8, .int r12), (7, .int r10), (6, .int r8), (5, .int r6), (4, .int r4), (3, .int r2), (0, .ref (adr k)), (1, .int a0), (2, .int a1)]) hx hb dX0_sumOf_197 hl (by decide) rfl (fun ls hl => ?_)
  refine lv_aload_n hx hb dX0_sumOf_199 rfl (lv_at hl 12 rfl) ?_
  refine fr_get (j := 0) C hP (by have := hk.2.1; omega) (fG_CL adr cs t39 hk) rfl (fun w h => List.mem_cons_of_mem _ (inl_X0 w h)) (by decide) rfl (List.mem_cons_of_mem _ mw_3_13) rfl dX0_sumOf_200 ?_
  refine lv_aload_n hx hb dX0_sumOf_203 rfl (lv_at hl 12 rfl) ?_
  refine fr_get (j := 0) C hP (by have := hk.2.1; omega) (fG_CL adr cs t39 hk) rfl (fun w h => List.mem_cons_of_mem _ (inl_X0 w h)) (by decide) rfl (List.mem_cons_of_mem _ mw_3_13) rfl dX0_sumOf_204 ?_
  refine lv_iload hx hb dX0_sumOf_207 (lv_at hl 10 rfl) ?_
  refine lv_iload hx hb dX0_sumOf_209 (lv_at hl 8 rfl) ?_
  refine fr_ci (fr_runV (n := 2) (rest := [.ref (adr 1)]) C (c_X3_product l D adr cs hN t39 r4 r8 _ h) hP hS (by omega) (fG_PO adr cs t39) rfl (fgV mw_31_7 mw_6_11 mw_6_12 mw_1_14 mw_6_13) rfl rfl rfl (by decide +kernel) ⟨Nat.le_of_ble_eq_true rfl, Nat.le_of_ble_eq_true rfl⟩ rfl hl.1 rfl (Nat.le_of_ble_eq_true rfl) dX0_sumOf_211) hS (fun r42 t41 H locs h hP hS => ?_)
  refine lv_aload_n hx hb dX0_sumOf_214 rfl (lv_at hl 12 rfl) ?_
  refine fr_get (j := 2) C hP (by have := hk.2.1; omega) (fG_CL adr cs t41 hk) rfl (fun w h => List.mem_cons_of_mem _ (inl_X0 w h)) (by decide) rfl (List.mem_cons_of_mem _ mw_17_19) rfl dX0_sumOf_215 ?_
  refine fr_ci (fr_runV (n := 2) (rest := []) C (c_X3_sum l D adr cs hN t41 r42 ((fgi t41 k 2)) _ h) hP hS (by omega) (fG_PO adr cs t41) rfl (fgV mw_31_10 mw_6_15 mw_6_16 mw_1_14 mw_6_17) rfl rfl rfl (by decide +kernel) ⟨Nat.le_of_ble_eq_true rfl, Nat.le_of_ble_eq_true rfl⟩ rfl hl.1 rfl (Nat.le_of_ble_eq_true rfl) dX0_sumOf_218) hS (fun r44 t43 H locs h hP hS => ?_)
  refine lv_istore (lv' := [(15, .int r44), (14, .int r40), (13, .int r30), (12, .int r24), (11, .int r22), (10, .int r20), (9, .int r18), (8, .int r12), (7, .int r10), (6, .int r8), (5, .int r6), (4, .int r4), (3, .int r2), (0, .ref (adr k)), (1, .int a0), (2, .int a1)]) hx hb dX0_sumOf_221 hl (by decide) rfl (fun ls hl => ?_)
  refine lv_aload_n hx hb dX0_sumOf_223 rfl (lv_at hl 13 rfl) ?_
  refine fr_get (j := 0) C hP (by have := hk.2.1; omega) (fG_CL adr cs t43 hk) rfl (fun w h => List.mem_cons_of_mem _ (inl_X0 w h)) (by decide) rfl (List.mem_cons_of_mem _ mw_3_13) rfl dX0_sumOf_224 ?_
  refine lv_aload_n hx hb dX0_sumOf_227 rfl (lv_at hl 13 rfl) ?_
  refine fr_get (j := 0) C hP (by have := hk.2.1; omega) (fG_CL adr cs t43 hk) rfl (fun w h => List.mem_cons_of_mem _ (inl_X0 w h)) (by decide) rfl (List.mem_cons_of_mem _ mw_3_13) rfl dX0_sumOf_228 ?_
  refine lv_iload hx hb dX0_sumOf_231 (lv_at hl 3 rfl) ?_
  refine lv_iload hx hb dX0_sumOf_233 (lv_at hl 1 rfl) ?_
  refine fr_ci (fr_runV (n := 2) (rest := [.ref (adr 1)]) C (c_X3_product l D adr cs hN t43 r24 r40 _ h) hP hS (by omega) (fG_PO adr cs t43) rfl (fgV mw_31_7 mw_6_11 mw_6_12 mw_1_14 mw_6_13) rfl rfl rfl (by decide +kernel) ⟨Nat.le_of_ble_eq_true rfl, Nat.le_of_ble_eq_true rfl⟩ rfl hl.1 rfl (Nat.le_of_ble_eq_true rfl) dX0_sumOf_235) hS (fun r46 t45 H locs h hP hS => ?_)
  refine lv_aload_n hx hb dX0_sumOf_238 rfl (lv_at hl 13 rfl) ?_
  refine fr_get (j := 0) C hP (by have := hk.2.1; omega) (fG_CL adr cs t45 hk) rfl (fun w h => List.mem_cons_of_mem _ (inl_X0 w h)) (by decide) rfl (List.mem_cons_of_mem _ mw_3_13) rfl dX0_sumOf_239 ?_
  refine lv_iload hx hb dX0_sumOf_242 (lv_at hl 2 rfl) ?_
  refine lv_iload hx hb dX0_sumOf_244 (lv_at hl 0 rfl) ?_
  refine fr_ci (fr_runV (n := 2) (rest := [.int r46, .ref (adr 1)]) C (c_X3_product l D adr cs hN t45 r30 r44 _ h) hP hS (by omega) (fG_PO adr cs t45) rfl (fgV mw_31_7 mw_6_11 mw_6_12 mw_1_14 mw_6_13) rfl rfl rfl (by decide +kernel) ⟨Nat.le_of_ble_eq_true rfl, Nat.le_of_ble_eq_true rfl⟩ rfl hl.1 rfl (Nat.le_of_ble_eq_true rfl) dX0_sumOf_246) hS (fun r48 t47 H locs h hP hS => ?_)
  refine fr_ci (fr_runV (n := 2) (rest := []) C (c_X3_sum l D adr cs hN t47 r46 r48 _ h) hP hS (by omega) (fG_PO adr cs t47) rfl (fgV mw_31_10 mw_6_15 mw_6_16 mw_1_14 mw_6_17) rfl rfl rfl (by decide +kernel) ⟨Nat.le_of_ble_eq_true rfl, Nat.le_of_ble_eq_true rfl⟩ rfl hl.1 rfl (Nat.le_of_ble_eq_true rfl) dX0_sumOf_249) hS (fun r50 t49 H locs h hP hS => ?_)
  refine lv_istore (lv' := [(16, .int r50), (15, .int r44), (14, .int r40), (13, .int r30), (12, .int r24), (11, .int r22), (10, .int r20), (9, .int r18), (8, .int r12), (7, .int r10), (6, .int r8), (5, .int r6), (4, .int r4), (3, .int r2), (0, .ref (adr k)), (1, .int a0), (2, .int a1)]) hx hb dX0_sumOf_252 hl (by decide) rfl (fun ls hl => ?_)
  refine lv_aload_n hx hb dX0_sumOf_254 rfl (lv_at hl 14 rfl) ?_
  refine fr_get (j := 0) C hP (by have := hk.2.1; omega) (fG_CL adr cs t49 hk) rfl (fun w h => List.mem_cons_of_mem _ (inl_X0 w h)) (by decide) rfl (List.mem_cons_of_mem _ mw_3_13) rfl dX0_sumOf_255 ?_
  refine lv_aload_n hx hb dX0_sumOf_258 rfl (lv_at hl 14 rfl) ?_
  refine fr_get (j := 0) C hP (by have := hk.2.1; omega) (fG_CL adr cs t49 hk) rfl (fun w h => List.mem_cons_of_mem _ (inl_X0 w h)) (by decide) rfl (List.mem_cons_of_mem _ mw_3_13) rfl dX0_sumOf_259 ?_
  refine lv_iload_n hx hb dX0_sumOf_262 rfl (lv_at hl 13 rfl) ?_
  refine lv_iload hx hb dX0_sumOf_263 (lv_at hl 11 rfl) ?_
  refine fr_ci (fr_runV (n := 2) (rest := [.ref (adr 1)]) C (c_X3_product l D adr cs hN t49 r2 r6 _ h) hP hS (by omega) (fG_PO adr cs t49) rfl (fgV mw_31_7 mw_6_11 mw_6_12 mw_1_14 mw_6_13) rfl rfl rfl (by decide +kernel) ⟨Nat.le_of_ble_eq_true rfl, Nat.le_of_ble_eq_true rfl⟩ rfl hl.1 rfl (Nat.le_of_ble_eq_true rfl) dX0_sumOf_265) hS (fun r52 t51 H locs h hP hS => ?_)
  refine lv_aload_n hx hb dX0_sumOf_268 rfl (lv_at hl 14 rfl) ?_
  refine fr_get (j := 0) C hP (by have := hk.2.1; omega) (fG_CL adr cs t51 hk) rfl (fun w h => List.mem_cons_of_mem _ (inl_X0 w h)) (by decide) rfl (List.mem_cons_of_mem _ mw_3_13) rfl dX0_sumOf_269 ?_
  refine lv_iload hx hb dX0_sumOf_272 (lv_at hl 5 rfl) ?_
  refine lv_iload hx hb dX0_sumOf_274 (lv_at hl 5 rfl) ?_
  refine fr_ci (fr_runV (n := 2) (rest := [.int r52, .ref (adr 1)]) C (c_X3_product l D adr cs hN t51 r22 r22 _ h) hP hS (by omega) (fG_PO adr cs t51) rfl (fgV mw_31_7 mw_6_11 mw_6_12 mw_1_14 mw_6_13) rfl rfl rfl (by decide +kernel) ⟨Nat.le_of_ble_eq_true rfl, Nat.le_of_ble_eq_true rfl⟩ rfl hl.1 rfl (Nat.le_of_ble_eq_true rfl) dX0_sumOf_276) hS (fun r54 t53 H locs h hP hS => ?_)
  refine fr_ci (fr_runV (n := 2) (rest := []) C (c_X3_quotient l D adr cs hN t53 r52 r54 _ h) hP hS (by omega) (fG_PO adr cs t53) rfl (fgV mw_31_9 mw_31_4 mw_31_5 mw_1_14 mw_31_6) rfl rfl rfl (by decide +kernel) ⟨Nat.le_of_ble_eq_true rfl, Nat.le_of_ble_eq_true rfl⟩ rfl hl.1 rfl (Nat.le_of_ble_eq_true rfl) dX0_sumOf_279) hS (fun r56 t55 H locs h hP hS => ?_)
  refine lv_istore (lv' := [(17, .int r56), (16, .int r50), (15, .int r44), (14, .int r40), (13, .int r30), (12, .int r24), (11, .int r22), (10, .int r20), (9, .int r18), (8, .int r12), (7, .int r10), (6, .int r8), (5, .int r6), (4, .int r4), (3, .int r2), (0, .ref (adr k)), (1, .int a0), (2, .int a1)]) hx hb dX0_sumOf_282 hl (by decide) rfl (fun ls hl => ?_)
  refine lv_aload_n hx hb dX0_sumOf_284 rfl (lv_at hl 15 rfl) ?_
  refine lv_iload hx hb dX0_sumOf_285 (lv_at hl 0 rfl) ?_
  refine lv_aload_n hx hb dX0_sumOf_287 rfl (lv_at hl 15 rfl) ?_
  refine fr_get (j := 0) C hP (by have := hk.2.1; omega) (fG_CL adr cs t55 hk) rfl (fun w h => List.mem_cons_of_mem _ (inl_X0 w h)) (by decide) rfl (List.mem_cons_of_mem _ mw_3_13) rfl dX0_sumOf_288 ?_
  refine lv_aload_n hx hb dX0_sumOf_291 rfl (lv_at hl 15 rfl) ?_
  refine fr_get (j := 0) C hP (by have := hk.2.1; omega) (fG_CL adr cs t55 hk) rfl (fun w h => List.mem_cons_of_mem _ (inl_X0 w h)) (by decide) rfl (List.mem_cons_of_mem _ mw_3_13) rfl dX0_sumOf_292 ?_
  refine lv_iload hx hb dX0_sumOf_295 (lv_at hl 1 rfl) ?_
  refine lv_iload hx hb dX0_sumOf_297 (lv_at hl 6 rfl) ?_
  refine fr_ci (fr_runV (n := 2) (rest := [.ref (adr 1), .int r56, .ref (adr k)]) C (c_X3_quotient l D adr cs hN t55 r50 r22 _ h) hP hS (by omega) (fG_PO adr cs t55) rfl (fgV mw_31_9 mw_31_4 mw_31_5 mw_1_14 mw_31_6) rfl rfl rfl (by decide +kernel) ⟨Nat.le_of_ble_eq_true rfl, Nat.le_of_ble_eq_true rfl⟩ rfl hl.1 rfl (Nat.le_of_ble_eq_true rfl) dX0_sumOf_299) hS (fun r58 t57 H locs h hP hS => ?_)
  refine lv_iload hx hb dX0_sumOf_302 (lv_at hl 0 rfl) ?_
  refine fr_ci (fr_runV (n := 2) (rest := [.int r56, .ref (adr k)]) C (c_X3_rest l D adr cs hN t57 r58 r56 _ h) hP hS (by omega) (fG_PO adr cs t57) rfl (fgV mw_27_9 mw_5_1 mw_5_2 mw_1_14 mw_5_3) rfl rfl rfl (by decide +kernel) ⟨Nat.le_of_ble_eq_true rfl, Nat.le_of_ble_eq_true rfl⟩ rfl hl.1 rfl (Nat.le_of_ble_eq_true rfl) dX0_sumOf_304) hS (fun r60 t59 H locs h hP hS => ?_)
  refine fr_ci (fr_runV (n := 2) (rest := []) C (c_X0_reduced l D adr cs hN t59 k hk r56 r60 _ h) hP hS (by have := hk.2.1; omega) (fG_CL adr cs t59 hk) rfl (fgV mw_31_11 mw_31_12 mw_31_13 mw_3_5 mw_31_14) rfl rfl rfl (by decide +kernel) ⟨Nat.le_of_ble_eq_true rfl, Nat.le_of_ble_eq_true rfl⟩ rfl hl.1 rfl (Nat.le_of_ble_eq_true rfl) dX0_sumOf_307) hS (fun r62 t61 H locs h hP hS => ?_)
  exact fr_iret C hP hS h dX0_sumOf_310

/-! X0.multipleOf -/
abbrev wm_X0_multipleOf : List Cond := Cond.code yX0_multipleOf cX0_multipleOf 6 (some .int) :: wsL_law
def q_X0_multipleOf_34 (k : Nat) (post : Int32 → fcS → Prop) (k13 : Int32 → Int32 → Int32 → fcS → Prop) (v3 : Int32) (v4 : Int32) (v5 : Int32) (t : fcS) : Prop := q_X0_sumOf t k v4 v4 (fun (r4 : Int32) (t3 : fcS) => (¬ (2 : Int32) = 0) ∧ (∀ x5 : Int32, x5 = (v5 / 2) → (k13 v3 r4 x5 t3)))
def q_X0_multipleOf_13 (k : Nat) (post : Int32 → fcS → Prop) : Nat → Int32 → Int32 → Int32 → fcS → Prop
  | 0, _, _, _, _ => False
  | n + 1, v3, v4, v5, t => (v5 ≤ 0 → (post v3 t)) ∧ (¬ v5 ≤ 0 → ((¬ (2 : Int32) = 0) ∧ ((¬ (irm v5 2) = 1 → (q_X0_multipleOf_34 k post (fun v3_ v4_ v5_ t_ => q_X0_multipleOf_13 k post n v3_ v4_ v5_ t_) v3 v4 v5 t)) ∧ ((irm v5 2) = 1 → (q_X0_sumOf t k v3 v4 (fun (r7 : Int32) (t6 : fcS) => q_X0_multipleOf_34 k post (fun v3_ v4_ v5_ t_ => q_X0_multipleOf_13 k post n v3_ v4_ v5_ t_) r7 v4 v5 t6))))))
def q_X0_multipleOf (t : fcS) (k : Nat) (a0 : Int32) (a1 : Int32) (post : Int32 → fcS → Prop) : Prop := q_X0_keyOf t k 1 0 (fun (r2 : Int32) (t1 : fcS) => ∃ n0, q_X0_multipleOf_13 k post n0 r2 a0 a1 t1)
set_option maxHeartbeats 4000000 in
set_option maxRecDepth 100000 in
theorem k_X0_multipleOf_34 {D : va_G} {adr : Nat → Nat} {cs : Nat → ClassId} {N : Nat} (hN : 53 ≤ N) {p : Program} {l : Launch} {e : Env} {s : State} {m : MethodId} {args : Array Value} {below : List Frame} {meth : Method} {c : Code} (C : fCx D adr cs N p s m args meth c cX0_multipleOf 6 (some .int) RX0 wm_X0_multipleOf) (k : Nat) (hk : fisL k) {post : Int32 → fcS → Prop} {k13 : Int32 → Int32 → Int32 → fcS → Prop} (hk13 : ∀ (v3 : Int32) (v4 : Int32) (v5 : Int32) (t : fcS) (H : Heap) (locs : List Loc) (ls : Array Slot), k13 v3 v4 v5 t → va_P D vwCl (fwl adr N (fG adr cs t)) H → va_S (faN adr N) s.heap H locs → lv_has ls 6 [(0, .ref (adr k)), (3, .int v3), (4, .int v4), (5, .int v5)] → W p l e ({ frames := 4, cells := 0, slots := 0, locals := 122 } : Room) s m args below meth c H locs 0 0 (MQ below (fQi D adr cs N post) args s 0 0 (faN adr N)) (F0 m 13 ls [])) : ∀ (v3 : Int32) (v4 : Int32) (v5 : Int32) (t : fcS) (H : Heap) (locs : List Loc) (ls : Array Slot), q_X0_multipleOf_34 k post k13 v3 v4 v5 t → va_P D vwCl (fwl adr N (fG adr cs t)) H → va_S (faN adr N) s.heap H locs → lv_has ls 6 [(0, .ref (adr k)), (3, .int v3), (4, .int v4), (5, .int v5)] → W p l e ({ frames := 4, cells := 0, slots := 0, locals := 122 } : Room) s m args below meth c H locs 0 0 (MQ below (fQi D adr cs N post) args s 0 0 (faN adr N)) (F0 m 34 ls []) := by
  have hx := C.1.1
  have hb := C.1.2.1
  intro v3 v4 v5 t H locs ls h hP hS hl
  unfold q_X0_multipleOf_34 at h
  refine lv_aload_n hx hb dX0_multipleOf_34 rfl (lv_at hl 0 rfl) ?_
  refine lv_iload hx hb dX0_multipleOf_35 (lv_at hl 2 rfl) ?_
  refine lv_iload hx hb dX0_multipleOf_37 (lv_at hl 2 rfl) ?_
  refine fr_ci (fr_runV (n := 2) (rest := []) C (c_X0_sumOf l D adr cs hN t k hk v4 v4 _ h) hP hS (by have := hk.2.1; omega) (fG_CL adr cs t hk) rfl (fgV mw_33_13 mw_30_17 mw_30_18 mw_3_5 mw_30_19) rfl rfl rfl (by decide +kernel) ⟨Nat.le_of_ble_eq_true rfl, Nat.le_of_ble_eq_true rfl⟩ rfl hl.1 rfl (Nat.le_of_ble_eq_true rfl) dX0_multipleOf_39) hS (fun r4 t3 H locs h hP hS => ?_)
  refine lv_istore (lv' := [(4, .int r4), (0, .ref (adr k)), (3, .int v3), (5, .int v5)]) hx hb dX0_multipleOf_42 hl (by decide) rfl (fun ls hl => ?_)
  refine lv_iload hx hb dX0_multipleOf_44 (lv_at hl 3 rfl) ?_
  refine lv_iconst (v := 2) hx hb dX0_multipleOf_46 (by decide) ?_
  refine lv_idiv hx hb dX0_multipleOf_47 h.1 ?_
  replace h := h.2
  refine lv_topi (fun x5 ex5 => ?_)
  replace h := h x5 ex5
  refine lv_istore (lv' := [(5, .int x5), (4, .int r4), (0, .ref (adr k)), (3, .int v3)]) hx hb dX0_multipleOf_48 hl (by decide) rfl (fun ls hl => ?_)
  refine lv_goto (tgt := 13) hx hb dX0_multipleOf_50 (by decide) ?_
  exact hk13 v3 r4 x5 t3 _ _ _ h hP hS (lv_sub hl [2, 3, 1, 0] rfl)

set_option maxHeartbeats 4000000 in
set_option maxRecDepth 100000 in
theorem k_X0_multipleOf_13 {D : va_G} {adr : Nat → Nat} {cs : Nat → ClassId} {N : Nat} (hN : 53 ≤ N) {p : Program} {l : Launch} {e : Env} {s : State} {m : MethodId} {args : Array Value} {below : List Frame} {meth : Method} {c : Code} (C : fCx D adr cs N p s m args meth c cX0_multipleOf 6 (some .int) RX0 wm_X0_multipleOf) (k : Nat) (hk : fisL k) {post : Int32 → fcS → Prop} : ∀ (n : Nat) (v3 : Int32) (v4 : Int32) (v5 : Int32) (t : fcS) (H : Heap) (locs : List Loc) (ls : Array Slot), q_X0_multipleOf_13 k post n v3 v4 v5 t → va_P D vwCl (fwl adr N (fG adr cs t)) H → va_S (faN adr N) s.heap H locs → lv_has ls 6 [(0, .ref (adr k)), (3, .int v3), (4, .int v4), (5, .int v5)] → W p l e ({ frames := 4, cells := 0, slots := 0, locals := 122 } : Room) s m args below meth c H locs 0 0 (MQ below (fQi D adr cs N post) args s 0 0 (faN adr N)) (F0 m 13 ls []) := by
  have hx := C.1.1
  have hb := C.1.2.1
  intro n
  induction n with
  | zero => intro v3 v4 v5 t H locs ls h; exact False.elim h
  | succ n ih =>
    intro v3 v4 v5 t H locs ls h hP hS hl
    unfold q_X0_multipleOf_13 at h
    refine lv_iload hx hb dX0_multipleOf_13 (lv_at hl 3 rfl) ?_
    refine lv_if_le (tgt := 53) hx hb dX0_multipleOf_15 (by decide) (fun c9 => ?_) (fun c9 => ?_)
    · replace h := h.1 c9
      refine lv_iload_n hx hb dX0_multipleOf_53 rfl (lv_at hl 1 rfl) ?_
      exact fr_iret C hP hS h dX0_multipleOf_54
    · replace h := h.2 c9
      refine lv_iload hx hb dX0_multipleOf_18 (lv_at hl 3 rfl) ?_
      refine lv_iconst (v := 2) hx hb dX0_multipleOf_20 (by decide) ?_
      refine lv_irem hx hb dX0_multipleOf_21 h.1 ?_
      replace h := h.2
      refine lv_iconst (v := 1) hx hb dX0_multipleOf_22 (by decide) ?_
      refine lv_icmp_ne (tgt := 34) hx hb dX0_multipleOf_23 (by decide) (fun c9 => ?_) (fun c9 => ?_)
      · replace h := h.1 c9
        exact k_X0_multipleOf_34 hN C k hk ih v3 v4 v5 t _ _ _ h hP hS (lv_sub hl [0, 1, 2, 3] rfl)
      · replace h := h.2 c9
        refine lv_aload_n hx hb dX0_multipleOf_26 rfl (lv_at hl 0 rfl) ?_
        refine lv_iload_n hx hb dX0_multipleOf_27 rfl (lv_at hl 1 rfl) ?_
        refine lv_iload hx hb dX0_multipleOf_28 (lv_at hl 2 rfl) ?_
        refine fr_ci (fr_runV (n := 2) (rest := []) C (c_X0_sumOf l D adr cs hN t k hk v3 v4 _ h) hP hS (by have := hk.2.1; omega) (fG_CL adr cs t hk) rfl (fgV mw_33_13 mw_30_17 mw_30_18 mw_3_5 mw_30_19) rfl rfl rfl (by decide +kernel) ⟨Nat.le_of_ble_eq_true rfl, Nat.le_of_ble_eq_true rfl⟩ rfl hl.1 rfl (Nat.le_of_ble_eq_true rfl) dX0_multipleOf_30) hS (fun r7 t6 H locs h hP hS => ?_)
        refine lv_istore_n (lv' := [(3, .int r7), (0, .ref (adr k)), (4, .int v4), (5, .int v5)]) hx hb dX0_multipleOf_33 rfl hl (by decide) rfl (fun ls hl => ?_)
        exact k_X0_multipleOf_34 hN C k hk ih r7 v4 v5 t6 _ _ _ h hP hS (lv_sub hl [1, 0, 2, 3] rfl)

set_option maxHeartbeats 4000000 in
set_option maxRecDepth 100000 in
theorem c_X0_multipleOf (l : Launch) (D : va_G) (adr : Nat → Nat) (cs : Nat → ClassId) {N : Nat} (hN : 53 ≤ N) (t : fcS) (k : Nat) (hk : fisL k) (a0 : Int32) (a1 : Int32) (post : Int32 → fcS → Prop) (h : q_X0_multipleOf t k a0 a1 post) : Met l yX0_multipleOf wm_X0_multipleOf ({ frames := 4, cells := 0, slots := 0, locals := 122 } : Room) (fcPre D adr cs N t [.ref (adr k), .int a0, .int a1]) (fQi D adr cs N post) 0 0 (faN adr N) := by
  refine f_enter (cc := cX0_multipleOf) (nL := 6) (ret := some .int) (lv := [(0, .ref (adr k)), (1, .int a0), (2, .int a1)]) (own := RX0) (by decide) rfl (Nat.le_of_ble_eq_true rfl) rfl rfl ?_
  intro p e s m below meth c ls C hP hS hl
  have hx := C.1.1
  have hb := C.1.2.1
  unfold q_X0_multipleOf at h
  refine lv_aload_n hx hb dX0_multipleOf_0 rfl (lv_at hl 0 rfl) ?_
  refine lv_iconst (v := 1) hx hb dX0_multipleOf_1 (by decide) ?_
  refine lv_iconst (v := 0) hx hb dX0_multipleOf_2 (by decide) ?_
  refine fr_ci (fr_runV (n := 2) (rest := []) C (c_X0_keyOf l D adr cs hN t k hk 1 0 _ h) hP hS (by have := hk.2.1; omega) (fG_CL adr cs t hk) rfl (fgV mw_28_18 mw_28_19 mw_28_20 mw_3_5 mw_28_21) rfl rfl rfl (by decide +kernel) ⟨Nat.le_of_ble_eq_true rfl, Nat.le_of_ble_eq_true rfl⟩ rfl hl.1 rfl (Nat.le_of_ble_eq_true rfl) dX0_multipleOf_3) hS (fun r2 t1 H locs h hP hS => ?_)
  refine lv_istore_n (lv' := [(3, .int r2), (0, .ref (adr k)), (1, .int a0), (2, .int a1)]) hx hb dX0_multipleOf_6 rfl hl (by decide) rfl (fun ls hl => ?_)
  refine lv_iload_n hx hb dX0_multipleOf_7 rfl (lv_at hl 2 rfl) ?_
  refine lv_istore (lv' := [(4, .int a0), (3, .int r2), (0, .ref (adr k)), (1, .int a0), (2, .int a1)]) hx hb dX0_multipleOf_8 hl (by decide) rfl (fun ls hl => ?_)
  refine lv_iload_n hx hb dX0_multipleOf_10 rfl (lv_at hl 4 rfl) ?_
  refine lv_istore (lv' := [(5, .int a1), (4, .int a0), (3, .int r2), (0, .ref (adr k)), (1, .int a0), (2, .int a1)]) hx hb dX0_multipleOf_11 hl (by decide) rfl (fun ls hl => ?_)
  obtain ⟨n9, h⟩ := h
  exact k_X0_multipleOf_13 hN C k hk n9 r2 a0 a1 t1 _ _ _ h hP hS (lv_sub hl [3, 2, 1, 0] rfl)

/-! X0.orderOf -/
abbrev wm_X0_orderOf : List Cond := Cond.code yX0_orderOf cX0_orderOf 5 (some .int) :: wsL_law
def q_X0_orderOf_16 (k : Nat) (post : Int32 → fcS → Prop) (k10 : Int32 → Int32 → Int32 → Int32 → fcS → Prop) : Nat → Int32 → Int32 → Int32 → Int32 → fcS → Prop
  | 0, _, _, _, _, _ => False
  | n + 1, v1, v2, v3, v4, t => (v3 ≤ 1 → (∀ x3 : Int32, x3 = v4 + 1 → (k10 v1 v2 v3 x3 t))) ∧ (¬ v3 ≤ 1 → ((¬ (v4 : Int32) = 0) ∧ ((¬ (irm v3 v4) = 0 → (∀ x4 : Int32, x4 = v4 + 1 → (k10 v1 v2 v3 x4 t))) ∧ ((irm v3 v4) = 0 → ((¬ (v4 : Int32) = 0) ∧ (∀ x5 : Int32, x5 = (v3 / v4) → ((¬ (v4 : Int32) = 0) ∧ (q_X0_multipleOf t k v1 ((v2 / v4)) (fun (r7 : Int32) (t6 : fcS) => q_X0_keyOf t6 k 1 0 (fun (r9 : Int32) (t8 : fcS) => (¬ r7 = r9 → (q_X0_orderOf_16 k post k10 n v1 v2 x5 v4 t8)) ∧ (r7 = r9 → ((¬ (v4 : Int32) = 0) ∧ (∀ x10 : Int32, x10 = (v2 / v4) → (q_X0_orderOf_16 k post k10 n v1 x10 x5 v4 t8))))))))))))))
def q_X0_orderOf_10 (k : Nat) (post : Int32 → fcS → Prop) : Nat → Int32 → Int32 → Int32 → Int32 → fcS → Prop
  | 0, _, _, _, _, _ => False
  | n + 1, v1, v2, v3, v4, t => (v3 < v4 → (post v2 t)) ∧ (¬ v3 < v4 → (∃ n0, q_X0_orderOf_16 k post (fun v1_ v2_ v3_ v4_ t_ => q_X0_orderOf_10 k post n v1_ v2_ v3_ v4_ t_) n0 v1 v2 v3 v4 t))
def q_X0_orderOf (t : fcS) (k : Nat) (a0 : Int32) (post : Int32 → fcS → Prop) : Prop := q_X0_many t k (fun (r2 : Int32) (t1 : fcS) => ∃ n0, q_X0_orderOf_10 k post n0 a0 r2 r2 2 t1)
set_option maxHeartbeats 4000000 in
set_option maxRecDepth 100000 in
theorem k_X0_orderOf_16 {D : va_G} {adr : Nat → Nat} {cs : Nat → ClassId} {N : Nat} (hN : 53 ≤ N) {p : Program} {l : Launch} {e : Env} {s : State} {m : MethodId} {args : Array Value} {below : List Frame} {meth : Method} {c : Code} (C : fCx D adr cs N p s m args meth c cX0_orderOf 5 (some .int) RX0 wm_X0_orderOf) (k : Nat) (hk : fisL k) {post : Int32 → fcS → Prop} {k10 : Int32 → Int32 → Int32 → Int32 → fcS → Prop} (hk10 : ∀ (v1 : Int32) (v2 : Int32) (v3 : Int32) (v4 : Int32) (t : fcS) (H : Heap) (locs : List Loc) (ls : Array Slot), k10 v1 v2 v3 v4 t → va_P D vwCl (fwl adr N (fG adr cs t)) H → va_S (faN adr N) s.heap H locs → lv_has ls 5 [(0, .ref (adr k)), (1, .int v1), (2, .int v2), (3, .int v3), (4, .int v4)] → W p l e ({ frames := 5, cells := 0, slots := 0, locals := 147 } : Room) s m args below meth c H locs 0 0 (MQ below (fQi D adr cs N post) args s 0 0 (faN adr N)) (F0 m 10 ls [])) : ∀ (n : Nat) (v1 : Int32) (v2 : Int32) (v3 : Int32) (v4 : Int32) (t : fcS) (H : Heap) (locs : List Loc) (ls : Array Slot), q_X0_orderOf_16 k post k10 n v1 v2 v3 v4 t → va_P D vwCl (fwl adr N (fG adr cs t)) H → va_S (faN adr N) s.heap H locs → lv_has ls 5 [(0, .ref (adr k)), (1, .int v1), (2, .int v2), (3, .int v3), (4, .int v4)] → W p l e ({ frames := 5, cells := 0, slots := 0, locals := 147 } : Room) s m args below meth c H locs 0 0 (MQ below (fQi D adr cs N post) args s 0 0 (faN adr N)) (F0 m 16 ls []) := by
  have hx := C.1.1
  have hb := C.1.2.1
  intro n
  induction n with
  | zero => intro v1 v2 v3 v4 t H locs ls h; exact False.elim h
  | succ n ih =>
    intro v1 v2 v3 v4 t H locs ls h hP hS hl
    unfold q_X0_orderOf_16 at h
    refine lv_iload_n hx hb dX0_orderOf_16 rfl (lv_at hl 3 rfl) ?_
    refine lv_iconst (v := 1) hx hb dX0_orderOf_17 (by decide) ?_
    refine lv_icmp_le (tgt := 59) hx hb dX0_orderOf_18 (by decide) (fun c9 => ?_) (fun c9 => ?_)
    · replace h := h.1 c9
      obtain ⟨x3, ex3⟩ : ∃ y : Int32, y = v4 + 1 := ⟨_, rfl⟩
      replace h := h x3 ex3
      refine lv_iinc (v := x3) (lv' := [(4, .int x3), (0, .ref (adr k)), (1, .int v1), (2, .int v2), (3, .int v3)]) hx hb dX0_orderOf_59 hl (k := 4) rfl (by rw [ex3]; rfl) (by decide) rfl (fun ls hl => ?_)
      refine lv_goto (tgt := 10) hx hb dX0_orderOf_62 (by decide) ?_
      exact hk10 v1 v2 v3 x3 t _ _ _ h hP hS (lv_sub hl [1, 2, 3, 4, 0] rfl)
    · replace h := h.2 c9
      refine lv_iload_n hx hb dX0_orderOf_21 rfl (lv_at hl 3 rfl) ?_
      refine lv_iload hx hb dX0_orderOf_22 (lv_at hl 4 rfl) ?_
      refine lv_irem hx hb dX0_orderOf_24 h.1 ?_
      replace h := h.2
      refine lv_if_ne (tgt := 59) hx hb dX0_orderOf_25 (by decide) (fun c9 => ?_) (fun c9 => ?_)
      · replace h := h.1 c9
        obtain ⟨x4, ex4⟩ : ∃ y : Int32, y = v4 + 1 := ⟨_, rfl⟩
        replace h := h x4 ex4
        refine lv_iinc (v := x4) (lv' := [(4, .int x4), (0, .ref (adr k)), (1, .int v1), (2, .int v2), (3, .int v3)]) hx hb dX0_orderOf_59 hl (k := 4) rfl (by rw [ex4]; rfl) (by decide) rfl (fun ls hl => ?_)
        refine lv_goto (tgt := 10) hx hb dX0_orderOf_62 (by decide) ?_
        exact hk10 v1 v2 v3 x4 t _ _ _ h hP hS (lv_sub hl [1, 2, 3, 4, 0] rfl)
      · replace h := h.2 c9
        refine lv_iload_n hx hb dX0_orderOf_28 rfl (lv_at hl 3 rfl) ?_
        refine lv_iload hx hb dX0_orderOf_29 (lv_at hl 4 rfl) ?_
        refine lv_idiv hx hb dX0_orderOf_31 h.1 ?_
        replace h := h.2
        refine lv_topi (fun x5 ex5 => ?_)
        replace h := h x5 ex5
        refine lv_istore_n (lv' := [(3, .int x5), (0, .ref (adr k)), (1, .int v1), (2, .int v2), (4, .int v4)]) hx hb dX0_orderOf_32 rfl hl (by decide) rfl (fun ls hl => ?_)
        refine lv_aload_n hx hb dX0_orderOf_33 rfl (lv_at hl 1 rfl) ?_
        refine lv_iload_n hx hb dX0_orderOf_34 rfl (lv_at hl 2 rfl) ?_
        refine lv_iload_n hx hb dX0_orderOf_35 rfl (lv_at hl 3 rfl) ?_
        refine lv_iload hx hb dX0_orderOf_36 (lv_at hl 4 rfl) ?_
        refine lv_idiv hx hb dX0_orderOf_38 h.1 ?_
        replace h := h.2
        refine fr_ci (fr_runV (n := 2) (rest := []) C (c_X0_multipleOf l D adr cs hN t k hk v1 ((v2 / v4)) _ h) hP hS (by have := hk.2.1; omega) (fG_CL adr cs t hk) rfl (fgV mw_33_9 mw_33_10 mw_33_11 mw_3_5 mw_33_12) rfl rfl rfl (by decide +kernel) ⟨Nat.le_of_ble_eq_true rfl, Nat.le_of_ble_eq_true rfl⟩ rfl hl.1 rfl (Nat.le_of_ble_eq_true rfl) dX0_orderOf_39) hS (fun r7 t6 H locs h hP hS => ?_)
        refine lv_aload_n hx hb dX0_orderOf_42 rfl (lv_at hl 1 rfl) ?_
        refine lv_iconst (v := 1) hx hb dX0_orderOf_43 (by decide) ?_
        refine lv_iconst (v := 0) hx hb dX0_orderOf_44 (by decide) ?_
        refine fr_ci (fr_runV (n := 2) (rest := [.int r7]) C (c_X0_keyOf l D adr cs hN t6 k hk 1 0 _ h) hP hS (by have := hk.2.1; omega) (fG_CL adr cs t6 hk) rfl (fgV mw_28_18 mw_28_19 mw_28_20 mw_3_5 mw_28_21) rfl rfl rfl (by decide +kernel) ⟨Nat.le_of_ble_eq_true rfl, Nat.le_of_ble_eq_true rfl⟩ rfl hl.1 rfl (Nat.le_of_ble_eq_true rfl) dX0_orderOf_45) hS (fun r9 t8 H locs h hP hS => ?_)
        refine lv_icmp_ne (tgt := 16) hx hb dX0_orderOf_48 (by decide) (fun c9 => ?_) (fun c9 => ?_)
        · replace h := h.1 c9
          exact ih v1 v2 x5 v4 t8 _ _ _ h hP hS (lv_sub hl [1, 2, 3, 0, 4] rfl)
        · replace h := h.2 c9
          refine lv_iload_n hx hb dX0_orderOf_51 rfl (lv_at hl 3 rfl) ?_
          refine lv_iload hx hb dX0_orderOf_52 (lv_at hl 4 rfl) ?_
          refine lv_idiv hx hb dX0_orderOf_54 h.1 ?_
          replace h := h.2
          refine lv_topi (fun x10 ex10 => ?_)
          replace h := h x10 ex10
          refine lv_istore_n (lv' := [(2, .int x10), (3, .int x5), (0, .ref (adr k)), (1, .int v1), (4, .int v4)]) hx hb dX0_orderOf_55 rfl hl (by decide) rfl (fun ls hl => ?_)
          refine lv_goto (tgt := 16) hx hb dX0_orderOf_56 (by decide) ?_
          exact ih v1 x10 x5 v4 t8 _ _ _ h hP hS (lv_sub hl [2, 3, 0, 1, 4] rfl)

set_option maxHeartbeats 4000000 in
set_option maxRecDepth 100000 in
theorem k_X0_orderOf_10 {D : va_G} {adr : Nat → Nat} {cs : Nat → ClassId} {N : Nat} (hN : 53 ≤ N) {p : Program} {l : Launch} {e : Env} {s : State} {m : MethodId} {args : Array Value} {below : List Frame} {meth : Method} {c : Code} (C : fCx D adr cs N p s m args meth c cX0_orderOf 5 (some .int) RX0 wm_X0_orderOf) (k : Nat) (hk : fisL k) {post : Int32 → fcS → Prop} : ∀ (n : Nat) (v1 : Int32) (v2 : Int32) (v3 : Int32) (v4 : Int32) (t : fcS) (H : Heap) (locs : List Loc) (ls : Array Slot), q_X0_orderOf_10 k post n v1 v2 v3 v4 t → va_P D vwCl (fwl adr N (fG adr cs t)) H → va_S (faN adr N) s.heap H locs → lv_has ls 5 [(0, .ref (adr k)), (1, .int v1), (2, .int v2), (3, .int v3), (4, .int v4)] → W p l e ({ frames := 5, cells := 0, slots := 0, locals := 147 } : Room) s m args below meth c H locs 0 0 (MQ below (fQi D adr cs N post) args s 0 0 (faN adr N)) (F0 m 10 ls []) := by
  have hx := C.1.1
  have hb := C.1.2.1
  intro n
  induction n with
  | zero => intro v1 v2 v3 v4 t H locs ls h; exact False.elim h
  | succ n ih =>
    intro v1 v2 v3 v4 t H locs ls h hP hS hl
    unfold q_X0_orderOf_10 at h
    refine lv_iload hx hb dX0_orderOf_10 (lv_at hl 4 rfl) ?_
    refine lv_iload_n hx hb dX0_orderOf_12 rfl (lv_at hl 3 rfl) ?_
    refine lv_icmp_gt (tgt := 65) hx hb dX0_orderOf_13 (by decide) (fun c9 => ?_) (fun c9 => ?_)
    · replace h := h.1 c9
      refine lv_iload_n hx hb dX0_orderOf_65 rfl (lv_at hl 2 rfl) ?_
      exact fr_iret C hP hS h dX0_orderOf_66
    · replace h := h.2 c9
      obtain ⟨n9, h⟩ := h
      exact k_X0_orderOf_16 hN C k hk ih n9 v1 v2 v3 v4 t _ _ _ h hP hS (lv_sub hl [0, 1, 2, 3, 4] rfl)

set_option maxHeartbeats 4000000 in
set_option maxRecDepth 100000 in
theorem c_X0_orderOf (l : Launch) (D : va_G) (adr : Nat → Nat) (cs : Nat → ClassId) {N : Nat} (hN : 53 ≤ N) (t : fcS) (k : Nat) (hk : fisL k) (a0 : Int32) (post : Int32 → fcS → Prop) (h : q_X0_orderOf t k a0 post) : Met l yX0_orderOf wm_X0_orderOf ({ frames := 5, cells := 0, slots := 0, locals := 147 } : Room) (fcPre D adr cs N t [.ref (adr k), .int a0]) (fQi D adr cs N post) 0 0 (faN adr N) := by
  refine f_enter (cc := cX0_orderOf) (nL := 5) (ret := some .int) (lv := [(0, .ref (adr k)), (1, .int a0)]) (own := RX0) (by decide) rfl (Nat.le_of_ble_eq_true rfl) rfl rfl ?_
  intro p e s m below meth c ls C hP hS hl
  have hx := C.1.1
  have hb := C.1.2.1
  unfold q_X0_orderOf at h
  refine lv_aload_n hx hb dX0_orderOf_0 rfl (lv_at hl 0 rfl) ?_
  refine fr_ci (fr_runV (n := 0) (rest := []) C (c_X0_many l D adr cs hN t k hk _ h) hP hS (by have := hk.2.1; omega) (fG_CL adr cs t hk) rfl (fgV mw_30_15 mw_28_7 mw_28_8 mw_3_5 mw_28_9) rfl rfl rfl (by decide +kernel) ⟨Nat.le_of_ble_eq_true rfl, Nat.le_of_ble_eq_true rfl⟩ rfl hl.1 rfl (Nat.le_of_ble_eq_true rfl) dX0_orderOf_1) hS (fun r2 t1 H locs h hP hS => ?_)
  refine lv_istore_n (lv' := [(2, .int r2), (0, .ref (adr k)), (1, .int a0)]) hx hb dX0_orderOf_4 rfl hl (by decide) rfl (fun ls hl => ?_)
  refine lv_iload_n hx hb dX0_orderOf_5 rfl (lv_at hl 0 rfl) ?_
  refine lv_istore_n (lv' := [(3, .int r2), (2, .int r2), (0, .ref (adr k)), (1, .int a0)]) hx hb dX0_orderOf_6 rfl hl (by decide) rfl (fun ls hl => ?_)
  refine lv_iconst (v := 2) hx hb dX0_orderOf_7 (by decide) ?_
  refine lv_istore (lv' := [(4, .int 2), (3, .int r2), (2, .int r2), (0, .ref (adr k)), (1, .int a0)]) hx hb dX0_orderOf_8 hl (by decide) rfl (fun ls hl => ?_)
  obtain ⟨n9, h⟩ := h
  exact k_X0_orderOf_10 hN C k hk n9 a0 r2 r2 2 t1 _ _ _ h hP hS (lv_sub hl [3, 4, 2, 1, 0] rfl)

