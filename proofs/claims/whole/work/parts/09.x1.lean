/-! X1.begin -/
abbrev wm_X1_begin : List Cond := Cond.code yX1_begin cX1_begin 5 none :: wsL_law
def q_X1_begin_86 (k : Nat) (post : fcS → Prop) (vs0 : Int32) (t : fcS) : Prop := q_X3_movedBy t vs0 ((fgi t k 6)) (fun (r9 : Int32) (t8 : fcS) => ∀ t10 : fcS, t10 = fsi t8 k 9 r9 → (∀ t11 : fcS, t11 = fsi t10 k 3 0 → (q_X0_begin t11 ((k + 2)) ((fgi t11 k 9)) ((fgi t11 k 8)) (fun (t12 : fcS) => post t12))))
def q_X1_begin_50 (k : Nat) (post : fcS → Prop) (v4 : Int32) (vs0 : Int32) (t : fcS) : Prop := ∀ t7 : fcS, t7 = fsi t k 8 vs0 → (((fgi t7 k 4) < 1 → (q_X1_begin_86 k post ((fgi t7 k 5)) t7)) ∧ (¬ (fgi t7 k 4) < 1 → (q_X3_scaled t7 ((fgi t7 k 5)) v4 (fun (r14 : Int32) (t13 : fcS) => q_X1_begin_86 k post r14 t13))))
def q_X1_begin_21 (k : Nat) (post : fcS → Prop) (v2 : Int32) (v4 : Int32) (vs0 : Int32) (t : fcS) : Prop := ∀ t3 : fcS, t3 = fsi t k 6 vs0 → (q_X3_degree t3 v2 (fun (r5 : Int32) (t4 : fcS) => ∀ t6 : fcS, t6 = fsi t4 k 7 r5 → ((4 < (fgi t6 k 7) → (q_X1_begin_50 k post v4 2 t6)) ∧ (¬ 4 < (fgi t6 k 7) → (q_X1_begin_50 k post v4 1 t6)))))
def q_X1_begin (t : fcS) (k : Nat) (a0 : Int32) (a1 : Int32) (a2 : Int32) (a3 : Int32) (post : fcS → Prop) : Prop := ∀ t1 : fcS, t1 = fsi t k 4 a0 → (∀ t2 : fcS, t2 = fsi t1 k 5 a1 → ((¬ a0 = 2 → (q_X1_begin_21 k post a1 a3 0 t2)) ∧ (a0 = 2 → (q_X1_begin_21 k post a1 a3 a2 t2))))
set_option maxHeartbeats 4000000 in
set_option maxRecDepth 100000 in
theorem k_X1_begin_86 {D : va_G} {adr : Nat → Nat} {cs : Nat → ClassId} {N : Nat} (hN : 53 ≤ N) {p : Program} {l : Launch} {e : Env} {s : State} {m : MethodId} {args : Array Value} {below : List Frame} {meth : Method} {c : Code} (C : fCx D adr cs N p s m args meth c cX1_begin 5 (none) RX1 wm_X1_begin) (k : Nat) (hk : fisC k) {post : fcS → Prop} : ∀ (vs0 : Int32) (t : fcS) (H : Heap) (locs : List Loc) (ls : Array Slot), q_X1_begin_86 k post vs0 t → va_P D vwCl (fwl adr N (fG adr cs t)) H → va_S (faN adr N) s.heap H locs → lv_has ls 5 [(0, .ref (adr k))] → W p l e ({ frames := 3, cells := 0, slots := 0, locals := 77 } : Room) s m args below meth c H locs 0 0 (MQ below (fQv D adr cs N post) args s 0 0 (faN adr N)) (F0 m 86 ls [.int vs0, .ref (adr 1), .ref (adr k)]) := by
  have hx := C.1.1
  have hb := C.1.2.1
  intro vs0 t H locs ls h hP hS hl
  unfold q_X1_begin_86 at h
  refine lv_aload_n hx hb dX1_begin_86 rfl (lv_at hl 0 rfl) ?_
  refine fr_get (j := 6) C hP (by have := hk.2.1; omega) (fG_CU adr cs t hk) rfl (fun w h => List.mem_cons_of_mem _ (inl_X1 w h)) (by decide) rfl (List.mem_cons_of_mem _ mw_17_3) rfl dX1_begin_87 ?_
  refine fr_ci (fr_runV (n := 2) (rest := [.ref (adr k)]) C (c_X3_movedBy l D adr cs hN t vs0 ((fgi t k 6)) _ h) hP hS (by omega) (fG_PO adr cs t) rfl (fgV mw_17_10 mw_17_11 mw_17_12 mw_1_14 mw_17_13) rfl rfl rfl (by decide +kernel) ⟨Nat.le_of_ble_eq_true rfl, Nat.le_of_ble_eq_true rfl⟩ rfl hl.1 rfl (Nat.le_of_ble_eq_true rfl) dX1_begin_90) hS (fun r9 t8 H locs h hP hS => ?_)
  refine fr_put C (fsi t8 k 9 r9) (j := 9) (ty := .int) hP hS (by have := hk.2.1; omega) (fG_CU adr cs t8 hk) rfl (fun w h => List.mem_cons_of_mem _ (inl_X1 w h)) tyX1_ok nmX1 (by decide) rfl (List.mem_cons_of_mem _ mw_17_6) rfl (by decide +kernel) rfl rfl (Nat.le_of_ble_eq_true rfl) (fS_CU_9 adr cs t8 hk r9) (fG_fsi_ne adr cs t8 k 9 r9) dX1_begin_93 (fun H locs hP hS => ?_)
  obtain ⟨t10, et10⟩ : ∃ y : fcS, y = fsi t8 k 9 r9 := ⟨_, rfl⟩
  rw [← et10] at hP
  replace h := h t10 et10
  refine lv_aload_n hx hb dX1_begin_96 rfl (lv_at hl 0 rfl) ?_
  refine lv_iconst (v := 0) hx hb dX1_begin_97 (by decide) ?_
  refine fr_put C (fsi t10 k 3 0) (j := 3) (ty := .boolean) hP hS (by have := hk.2.1; omega) (fG_CU adr cs t10 hk) rfl (fun w h => List.mem_cons_of_mem _ (inl_X1 w h)) tyX1_ok nmX1 (by decide) rfl (List.mem_cons_of_mem _ mw_17_7) rfl (by decide +kernel) rfl rfl (Nat.le_of_ble_eq_true rfl) (fS_CU_3 adr cs t10 hk 0) (fG_fsi_ne adr cs t10 k 3 0) dX1_begin_98 (fun H locs hP hS => ?_)
  obtain ⟨t11, et11⟩ : ∃ y : fcS, y = fsi t10 k 3 0 := ⟨_, rfl⟩
  rw [← et11] at hP
  replace h := h t11 et11
  refine lv_aload_n hx hb dX1_begin_101 rfl (lv_at hl 0 rfl) ?_
  refine fr_get (j := 1) C hP (by have := hk.2.1; omega) (fG_CU adr cs t11 hk) rfl (fun w h => List.mem_cons_of_mem _ (inl_X1 w h)) (by decide) rfl (List.mem_cons_of_mem _ mw_3_6) rfl dX1_begin_102 ?_
  refine lv_aload_n hx hb dX1_begin_105 rfl (lv_at hl 0 rfl) ?_
  refine fr_get (j := 9) C hP (by have := hk.2.1; omega) (fG_CU adr cs t11 hk) rfl (fun w h => List.mem_cons_of_mem _ (inl_X1 w h)) (by decide) rfl (List.mem_cons_of_mem _ mw_17_6) rfl dX1_begin_106 ?_
  refine lv_aload_n hx hb dX1_begin_109 rfl (lv_at hl 0 rfl) ?_
  refine fr_get (j := 8) C hP (by have := hk.2.1; omega) (fG_CU adr cs t11 hk) rfl (fun w h => List.mem_cons_of_mem _ (inl_X1 w h)) (by decide) rfl (List.mem_cons_of_mem _ mw_17_5) rfl dX1_begin_110 ?_
  refine fr_cv (fr_runV (n := 2) (rest := []) C (c_X0_begin l D adr cs hN t11 ((k + 2)) (fisL_of hk) ((fgi t11 k 9)) ((fgi t11 k 8)) _ h) hP hS (by have := (fisL_of hk).2.1; omega) (fG_CL adr cs t11 (fisL_of hk)) rfl (fgV mw_17_15 mw_17_16 mw_17_17 mw_3_5 mw_17_18) rfl rfl rfl (by decide +kernel) ⟨Nat.le_of_ble_eq_true rfl, Nat.le_of_ble_eq_true rfl⟩ rfl hl.1 rfl (Nat.le_of_ble_eq_true rfl) dX1_begin_113) hS (fun t12 H locs h hP hS => ?_)
  exact fr_vret C hP hS h dX1_begin_116

set_option maxHeartbeats 4000000 in
set_option maxRecDepth 100000 in
theorem k_X1_begin_50 {D : va_G} {adr : Nat → Nat} {cs : Nat → ClassId} {N : Nat} (hN : 53 ≤ N) {p : Program} {l : Launch} {e : Env} {s : State} {m : MethodId} {args : Array Value} {below : List Frame} {meth : Method} {c : Code} (C : fCx D adr cs N p s m args meth c cX1_begin 5 (none) RX1 wm_X1_begin) (k : Nat) (hk : fisC k) {post : fcS → Prop} : ∀ (v4 : Int32) (vs0 : Int32) (t : fcS) (H : Heap) (locs : List Loc) (ls : Array Slot), q_X1_begin_50 k post v4 vs0 t → va_P D vwCl (fwl adr N (fG adr cs t)) H → va_S (faN adr N) s.heap H locs → lv_has ls 5 [(0, .ref (adr k)), (4, .int v4)] → W p l e ({ frames := 3, cells := 0, slots := 0, locals := 77 } : Room) s m args below meth c H locs 0 0 (MQ below (fQv D adr cs N post) args s 0 0 (faN adr N)) (F0 m 50 ls [.int vs0, .ref (adr k)]) := by
  have hx := C.1.1
  have hb := C.1.2.1
  intro v4 vs0 t H locs ls h hP hS hl
  unfold q_X1_begin_50 at h
  refine fr_put C (fsi t k 8 vs0) (j := 8) (ty := .int) hP hS (by have := hk.2.1; omega) (fG_CU adr cs t hk) rfl (fun w h => List.mem_cons_of_mem _ (inl_X1 w h)) tyX1_ok nmX1 (by decide) rfl (List.mem_cons_of_mem _ mw_17_5) rfl (by decide +kernel) rfl rfl (Nat.le_of_ble_eq_true rfl) (fS_CU_8 adr cs t hk vs0) (fG_fsi_ne adr cs t k 8 vs0) dX1_begin_50 (fun H locs hP hS => ?_)
  obtain ⟨t7, et7⟩ : ∃ y : fcS, y = fsi t k 8 vs0 := ⟨_, rfl⟩
  rw [← et7] at hP
  replace h := h t7 et7
  refine lv_aload_n hx hb dX1_begin_53 rfl (lv_at hl 0 rfl) ?_
  refine lv_aload_n hx hb dX1_begin_54 rfl (lv_at hl 0 rfl) ?_
  refine fr_get (j := 0) C hP (by have := hk.2.1; omega) (fG_CU adr cs t7 hk) rfl (fun w h => List.mem_cons_of_mem _ (inl_X1 w h)) (by decide) rfl (List.mem_cons_of_mem _ mw_3_2) rfl dX1_begin_55 ?_
  refine lv_aload_n hx hb dX1_begin_58 rfl (lv_at hl 0 rfl) ?_
  refine fr_get (j := 4) C hP (by have := hk.2.1; omega) (fG_CU adr cs t7 hk) rfl (fun w h => List.mem_cons_of_mem _ (inl_X1 w h)) (by decide) rfl (List.mem_cons_of_mem _ mw_17_1) rfl dX1_begin_59 ?_
  refine lv_iconst (v := 1) hx hb dX1_begin_62 (by decide) ?_
  refine lv_icmp_lt (tgt := 82) hx hb dX1_begin_63 (by decide) (fun c9 => ?_) (fun c9 => ?_)
  · replace h := h.1 c9
    refine lv_aload_n hx hb dX1_begin_82 rfl (lv_at hl 0 rfl) ?_
    refine fr_get (j := 5) C hP (by have := hk.2.1; omega) (fG_CU adr cs t7 hk) rfl (fun w h => List.mem_cons_of_mem _ (inl_X1 w h)) (by decide) rfl (List.mem_cons_of_mem _ mw_17_2) rfl dX1_begin_83 ?_
    exact k_X1_begin_86 hN C k hk ((fgi t7 k 5)) t7 _ _ _ h hP hS (lv_sub hl [0] rfl)
  · replace h := h.2 c9
    refine lv_aload_n hx hb dX1_begin_66 rfl (lv_at hl 0 rfl) ?_
    refine fr_get (j := 0) C hP (by have := hk.2.1; omega) (fG_CU adr cs t7 hk) rfl (fun w h => List.mem_cons_of_mem _ (inl_X1 w h)) (by decide) rfl (List.mem_cons_of_mem _ mw_3_2) rfl dX1_begin_67 ?_
    refine lv_aload_n hx hb dX1_begin_70 rfl (lv_at hl 0 rfl) ?_
    refine fr_get (j := 5) C hP (by have := hk.2.1; omega) (fG_CU adr cs t7 hk) rfl (fun w h => List.mem_cons_of_mem _ (inl_X1 w h)) (by decide) rfl (List.mem_cons_of_mem _ mw_17_2) rfl dX1_begin_71 ?_
    refine lv_iload hx hb dX1_begin_74 (lv_at hl 1 rfl) ?_
    refine fr_ci (fr_runV (n := 2) (rest := [.ref (adr 1), .ref (adr k)]) C (c_X3_scaled l D adr cs hN t7 ((fgi t7 k 5)) v4 _ h) hP hS (by omega) (fG_PO adr cs t7) rfl (fgV mw_17_9 mw_5_21 mw_5_22 mw_1_14 mw_5_23) rfl rfl rfl (by decide +kernel) ⟨Nat.le_of_ble_eq_true rfl, Nat.le_of_ble_eq_true rfl⟩ rfl hl.1 rfl (Nat.le_of_ble_eq_true rfl) dX1_begin_76) hS (fun r14 t13 H locs h hP hS => ?_)
    refine lv_goto (tgt := 86) hx hb dX1_begin_79 (by decide) ?_
    exact k_X1_begin_86 hN C k hk r14 t13 _ _ _ h hP hS (lv_sub hl [0] rfl)

set_option maxHeartbeats 4000000 in
set_option maxRecDepth 100000 in
theorem k_X1_begin_21 {D : va_G} {adr : Nat → Nat} {cs : Nat → ClassId} {N : Nat} (hN : 53 ≤ N) {p : Program} {l : Launch} {e : Env} {s : State} {m : MethodId} {args : Array Value} {below : List Frame} {meth : Method} {c : Code} (C : fCx D adr cs N p s m args meth c cX1_begin 5 (none) RX1 wm_X1_begin) (k : Nat) (hk : fisC k) {post : fcS → Prop} : ∀ (v2 : Int32) (v4 : Int32) (vs0 : Int32) (t : fcS) (H : Heap) (locs : List Loc) (ls : Array Slot), q_X1_begin_21 k post v2 v4 vs0 t → va_P D vwCl (fwl adr N (fG adr cs t)) H → va_S (faN adr N) s.heap H locs → lv_has ls 5 [(0, .ref (adr k)), (2, .int v2), (4, .int v4)] → W p l e ({ frames := 3, cells := 0, slots := 0, locals := 77 } : Room) s m args below meth c H locs 0 0 (MQ below (fQv D adr cs N post) args s 0 0 (faN adr N)) (F0 m 21 ls [.int vs0, .ref (adr k)]) := by
  have hx := C.1.1
  have hb := C.1.2.1
  intro v2 v4 vs0 t H locs ls h hP hS hl
  unfold q_X1_begin_21 at h
  refine fr_put C (fsi t k 6 vs0) (j := 6) (ty := .int) hP hS (by have := hk.2.1; omega) (fG_CU adr cs t hk) rfl (fun w h => List.mem_cons_of_mem _ (inl_X1 w h)) tyX1_ok nmX1 (by decide) rfl (List.mem_cons_of_mem _ mw_17_3) rfl (by decide +kernel) rfl rfl (Nat.le_of_ble_eq_true rfl) (fS_CU_6 adr cs t hk vs0) (fG_fsi_ne adr cs t k 6 vs0) dX1_begin_21 (fun H locs hP hS => ?_)
  obtain ⟨t3, et3⟩ : ∃ y : fcS, y = fsi t k 6 vs0 := ⟨_, rfl⟩
  rw [← et3] at hP
  replace h := h t3 et3
  refine lv_aload_n hx hb dX1_begin_24 rfl (lv_at hl 0 rfl) ?_
  refine lv_aload_n hx hb dX1_begin_25 rfl (lv_at hl 0 rfl) ?_
  refine fr_get (j := 0) C hP (by have := hk.2.1; omega) (fG_CU adr cs t3 hk) rfl (fun w h => List.mem_cons_of_mem _ (inl_X1 w h)) (by decide) rfl (List.mem_cons_of_mem _ mw_3_2) rfl dX1_begin_26 ?_
  refine lv_iload_n hx hb dX1_begin_29 rfl (lv_at hl 1 rfl) ?_
  refine fr_ci (fr_runV (n := 1) (rest := [.ref (adr k)]) C (c_X3_degree l D adr cs hN t3 v2 _ h) hP hS (by omega) (fG_PO adr cs t3) rfl (fgV mw_17_8 mw_5_5 mw_5_6 mw_1_14 mw_5_7) rfl rfl rfl (by decide +kernel) ⟨Nat.le_of_ble_eq_true rfl, Nat.le_of_ble_eq_true rfl⟩ rfl hl.1 rfl (Nat.le_of_ble_eq_true rfl) dX1_begin_30) hS (fun r5 t4 H locs h hP hS => ?_)
  refine fr_put C (fsi t4 k 7 r5) (j := 7) (ty := .int) hP hS (by have := hk.2.1; omega) (fG_CU adr cs t4 hk) rfl (fun w h => List.mem_cons_of_mem _ (inl_X1 w h)) tyX1_ok nmX1 (by decide) rfl (List.mem_cons_of_mem _ mw_17_4) rfl (by decide +kernel) rfl rfl (Nat.le_of_ble_eq_true rfl) (fS_CU_7 adr cs t4 hk r5) (fG_fsi_ne adr cs t4 k 7 r5) dX1_begin_33 (fun H locs hP hS => ?_)
  obtain ⟨t6, et6⟩ : ∃ y : fcS, y = fsi t4 k 7 r5 := ⟨_, rfl⟩
  rw [← et6] at hP
  replace h := h t6 et6
  refine lv_aload_n hx hb dX1_begin_36 rfl (lv_at hl 0 rfl) ?_
  refine lv_aload_n hx hb dX1_begin_37 rfl (lv_at hl 0 rfl) ?_
  refine fr_get (j := 7) C hP (by have := hk.2.1; omega) (fG_CU adr cs t6 hk) rfl (fun w h => List.mem_cons_of_mem _ (inl_X1 w h)) (by decide) rfl (List.mem_cons_of_mem _ mw_17_4) rfl dX1_begin_38 ?_
  refine lv_iconst (v := 4) hx hb dX1_begin_41 (by decide) ?_
  refine lv_icmp_gt (tgt := 49) hx hb dX1_begin_42 (by decide) (fun c9 => ?_) (fun c9 => ?_)
  · replace h := h.1 c9
    refine lv_iconst (v := 2) hx hb dX1_begin_49 (by decide) ?_
    exact k_X1_begin_50 hN C k hk v4 2 t6 _ _ _ h hP hS (lv_sub hl [0, 2] rfl)
  · replace h := h.2 c9
    refine lv_iconst (v := 1) hx hb dX1_begin_45 (by decide) ?_
    refine lv_goto (tgt := 50) hx hb dX1_begin_46 (by decide) ?_
    exact k_X1_begin_50 hN C k hk v4 1 t6 _ _ _ h hP hS (lv_sub hl [0, 2] rfl)

set_option maxHeartbeats 4000000 in
set_option maxRecDepth 100000 in
theorem c_X1_begin (l : Launch) (D : va_G) (adr : Nat → Nat) (cs : Nat → ClassId) {N : Nat} (hN : 53 ≤ N) (t : fcS) (k : Nat) (hk : fisC k) (a0 : Int32) (a1 : Int32) (a2 : Int32) (a3 : Int32) (post : fcS → Prop) (h : q_X1_begin t k a0 a1 a2 a3 post) : Met l yX1_begin wm_X1_begin ({ frames := 3, cells := 0, slots := 0, locals := 77 } : Room) (fcPre D adr cs N t [.ref (adr k), .int a0, .int a1, .int a2, .int a3]) (fQv D adr cs N post) 0 0 (faN adr N) := by
  refine f_enter (cc := cX1_begin) (nL := 5) (ret := none) (lv := [(0, .ref (adr k)), (1, .int a0), (2, .int a1), (3, .int a2), (4, .int a3)]) (own := RX1) (by decide) rfl (Nat.le_of_ble_eq_true rfl) rfl rfl ?_
  intro p e s m below meth c ls C hP hS hl
  have hx := C.1.1
  have hb := C.1.2.1
  unfold q_X1_begin at h
  refine lv_aload_n hx hb dX1_begin_0 rfl (lv_at hl 0 rfl) ?_
  refine lv_iload_n hx hb dX1_begin_1 rfl (lv_at hl 1 rfl) ?_
  refine fr_put C (fsi t k 4 a0) (j := 4) (ty := .int) hP hS (by have := hk.2.1; omega) (fG_CU adr cs t hk) rfl (fun w h => List.mem_cons_of_mem _ (inl_X1 w h)) tyX1_ok nmX1 (by decide) rfl (List.mem_cons_of_mem _ mw_17_1) rfl (by decide +kernel) rfl rfl (Nat.le_of_ble_eq_true rfl) (fS_CU_4 adr cs t hk a0) (fG_fsi_ne adr cs t k 4 a0) dX1_begin_2 (fun H locs hP hS => ?_)
  obtain ⟨t1, et1⟩ : ∃ y : fcS, y = fsi t k 4 a0 := ⟨_, rfl⟩
  rw [← et1] at hP
  replace h := h t1 et1
  refine lv_aload_n hx hb dX1_begin_5 rfl (lv_at hl 0 rfl) ?_
  refine lv_iload_n hx hb dX1_begin_6 rfl (lv_at hl 2 rfl) ?_
  refine fr_put C (fsi t1 k 5 a1) (j := 5) (ty := .int) hP hS (by have := hk.2.1; omega) (fG_CU adr cs t1 hk) rfl (fun w h => List.mem_cons_of_mem _ (inl_X1 w h)) tyX1_ok nmX1 (by decide) rfl (List.mem_cons_of_mem _ mw_17_2) rfl (by decide +kernel) rfl rfl (Nat.le_of_ble_eq_true rfl) (fS_CU_5 adr cs t1 hk a1) (fG_fsi_ne adr cs t1 k 5 a1) dX1_begin_7 (fun H locs hP hS => ?_)
  obtain ⟨t2, et2⟩ : ∃ y : fcS, y = fsi t1 k 5 a1 := ⟨_, rfl⟩
  rw [← et2] at hP
  replace h := h t2 et2
  refine lv_aload_n hx hb dX1_begin_10 rfl (lv_at hl 0 rfl) ?_
  refine lv_iload_n hx hb dX1_begin_11 rfl (lv_at hl 1 rfl) ?_
  refine lv_iconst (v := 2) hx hb dX1_begin_12 (by decide) ?_
  refine lv_icmp_ne (tgt := 20) hx hb dX1_begin_13 (by decide) (fun c9 => ?_) (fun c9 => ?_)
  · replace h := h.1 c9
    refine lv_iconst (v := 0) hx hb dX1_begin_20 (by decide) ?_
    exact k_X1_begin_21 hN C k hk a1 a3 0 t2 _ _ _ h hP hS (lv_sub hl [0, 2, 4] rfl)
  · replace h := h.2 c9
    refine lv_iload_n hx hb dX1_begin_16 rfl (lv_at hl 3 rfl) ?_
    refine lv_goto (tgt := 21) hx hb dX1_begin_17 (by decide) ?_
    exact k_X1_begin_21 hN C k hk a1 a3 a2 t2 _ _ _ h hP hS (lv_sub hl [0, 2, 4] rfl)

/-! X1.makeShare -/
abbrev wm_X1_makeShare : List Cond := Cond.code yX1_makeShare cX1_makeShare 6 none :: wsL_law
def q_X1_makeShare_90 (k : Nat) (post : fcS → Prop) : Nat → Int32 → fcS → Prop
  | 0, _, _ => False
  | n + 1, v5, t => ((fgi t k 8) ≤ v5 → (∀ t8 : fcS, t8 = fsi t k 3 1 → (post t8))) ∧ (¬ (fgi t k 8) ≤ v5 → (q_X3_place t (((fgi t k 8) - v5)) (fun (r10 : Int32) (t9 : fcS) => q_X4_at t9 ((k + 1)) 5 v5 (fun (r12 : Int32) (t11 : fcS) => q_X4_put t11 ((k + 1)) 5 (((2 * (fgi t k 8)) - v5)) ((r10 * r12)) (fun (t13 : fcS) => ∀ x14 : Int32, x14 = v5 + 1 → (q_X1_makeShare_90 k post n x14 t13))))))
def q_X1_makeShare (t : fcS) (k : Nat) (k0a : Nat) (k1a : Nat) (post : fcS → Prop) : Prop := ∀ x1 : Int32, x1 = (fgi t 1 0) → (q_X2_pointsOf t k0a ((fgi t k 9)) (fun (r3 : Int32) (t2 : fcS) => ∀ x4 : Int32, x4 = ((r3 - x1) - 1) → (q_J7_fill_53178 t2 ((k + 1)) 5 0 (fun (t5 : fcS) => q_X4_put t5 ((k + 1)) 5 0 1 (fun (t6 : fcS) => q_X4_put t6 ((k + 1)) 5 1 x4 (fun (t7 : fcS) => (¬ (fgi t7 k 8) = 2 → (∃ n0, q_X1_makeShare_90 k post n0 0 t7)) ∧ ((fgi t7 k 8) = 2 → (q_X2_pointsOf t7 k1a ((fgi t7 k 9)) (fun (r16 : Int32) (t15 : fcS) => (¬ (2 : Int32) = 0) ∧ (q_X4_put t15 ((k + 1)) 5 2 (((((r16 - (x1 * x1)) - 1) + (x4 * x4)) / 2)) (fun (t17 : fcS) => ∃ n0, q_X1_makeShare_90 k post n0 0 t17)))))))))))
set_option maxHeartbeats 4000000 in
set_option maxRecDepth 100000 in
theorem k_X1_makeShare_90 {D : va_G} {adr : Nat → Nat} {cs : Nat → ClassId} {N : Nat} (hN : 53 ≤ N) {p : Program} {l : Launch} {e : Env} {s : State} {m : MethodId} {args : Array Value} {below : List Frame} {meth : Method} {c : Code} (C : fCx D adr cs N p s m args meth c cX1_makeShare 6 (none) RX1 wm_X1_makeShare) (k : Nat) (hk : fisC k) {post : fcS → Prop} : ∀ (n : Nat) (v5 : Int32) (t : fcS) (H : Heap) (locs : List Loc) (ls : Array Slot), q_X1_makeShare_90 k post n v5 t → va_P D vwCl (fwl adr N (fG adr cs t)) H → va_S (faN adr N) s.heap H locs → lv_has ls 6 [(0, .ref (adr k)), (5, .int v5)] → W p l e ({ frames := 5, cells := 0, slots := 0, locals := 111 } : Room) s m args below meth c H locs 0 0 (MQ below (fQv D adr cs N post) args s 0 0 (faN adr N)) (F0 m 90 ls []) := by
  have hx := C.1.1
  have hb := C.1.2.1
  intro n
  induction n with
  | zero => intro v5 t H locs ls h; exact False.elim h
  | succ n ih =>
    intro v5 t H locs ls h hP hS hl
    unfold q_X1_makeShare_90 at h
    refine lv_iload hx hb dX1_makeShare_90 (lv_at hl 1 rfl) ?_
    refine lv_aload_n hx hb dX1_makeShare_92 rfl (lv_at hl 0 rfl) ?_
    refine fr_get (j := 8) C hP (by have := hk.2.1; omega) (fG_CU adr cs t hk) rfl (fun w h => List.mem_cons_of_mem _ (inl_X1 w h)) (by decide) rfl (List.mem_cons_of_mem _ mw_17_5) rfl dX1_makeShare_93 ?_
    refine lv_icmp_ge (tgt := 145) hx hb dX1_makeShare_96 (by decide) (fun c9 => ?_) (fun c9 => ?_)
    · replace h := h.1 c9
      refine lv_aload_n hx hb dX1_makeShare_145 rfl (lv_at hl 0 rfl) ?_
      refine lv_iconst (v := 1) hx hb dX1_makeShare_146 (by decide) ?_
      refine fr_put C (fsi t k 3 1) (j := 3) (ty := .boolean) hP hS (by have := hk.2.1; omega) (fG_CU adr cs t hk) rfl (fun w h => List.mem_cons_of_mem _ (inl_X1 w h)) tyX1_ok nmX1 (by decide) rfl (List.mem_cons_of_mem _ mw_17_7) rfl (by decide +kernel) rfl rfl (Nat.le_of_ble_eq_true rfl) (fS_CU_3 adr cs t hk 1) (fG_fsi_ne adr cs t k 3 1) dX1_makeShare_147 (fun H locs hP hS => ?_)
      obtain ⟨t8, et8⟩ : ∃ y : fcS, y = fsi t k 3 1 := ⟨_, rfl⟩
      rw [← et8] at hP
      replace h := h t8 et8
      exact fr_vret C hP hS h dX1_makeShare_150
    · replace h := h.2 c9
      refine lv_aload_n hx hb dX1_makeShare_99 rfl (lv_at hl 0 rfl) ?_
      refine fr_get (j := 2) C hP (by have := hk.2.1; omega) (fG_CU adr cs t hk) rfl (fun w h => List.mem_cons_of_mem _ (inl_X1 w h)) (by decide) rfl (List.mem_cons_of_mem _ mw_3_1) rfl dX1_makeShare_100 ?_
      refine lv_iconst (v := 2) hx hb dX1_makeShare_103 (by decide) ?_
      refine lv_aload_n hx hb dX1_makeShare_104 rfl (lv_at hl 0 rfl) ?_
      refine fr_get (j := 8) C hP (by have := hk.2.1; omega) (fG_CU adr cs t hk) rfl (fun w h => List.mem_cons_of_mem _ (inl_X1 w h)) (by decide) rfl (List.mem_cons_of_mem _ mw_17_5) rfl dX1_makeShare_105 ?_
      refine lv_imul hx hb dX1_makeShare_108 ?_
      refine lv_iload hx hb dX1_makeShare_109 (lv_at hl 1 rfl) ?_
      refine lv_isub hx hb dX1_makeShare_111 ?_
      refine lv_aload_n hx hb dX1_makeShare_112 rfl (lv_at hl 0 rfl) ?_
      refine fr_get (j := 0) C hP (by have := hk.2.1; omega) (fG_CU adr cs t hk) rfl (fun w h => List.mem_cons_of_mem _ (inl_X1 w h)) (by decide) rfl (List.mem_cons_of_mem _ mw_3_2) rfl dX1_makeShare_113 ?_
      refine lv_aload_n hx hb dX1_makeShare_116 rfl (lv_at hl 0 rfl) ?_
      refine fr_get (j := 8) C hP (by have := hk.2.1; omega) (fG_CU adr cs t hk) rfl (fun w h => List.mem_cons_of_mem _ (inl_X1 w h)) (by decide) rfl (List.mem_cons_of_mem _ mw_17_5) rfl dX1_makeShare_117 ?_
      refine lv_iload hx hb dX1_makeShare_120 (lv_at hl 1 rfl) ?_
      refine lv_isub hx hb dX1_makeShare_122 ?_
      refine fr_ci (fr_runV (n := 1) (rest := [.int (((2 * (fgi t k 8)) - v5)), .ref (adr ((k + 1)))]) C (c_X3_place l D adr cs hN t (((fgi t k 8) - v5)) _ h) hP hS (by omega) (fG_PO adr cs t) rfl (fgV mw_23_22 mw_4_6 mw_4_7 mw_1_14 mw_4_8) rfl rfl rfl (by decide +kernel) ⟨Nat.le_of_ble_eq_true rfl, Nat.le_of_ble_eq_true rfl⟩ rfl hl.1 rfl (Nat.le_of_ble_eq_true rfl) dX1_makeShare_123) hS (fun r10 t9 H locs h hP hS => ?_)
      refine lv_aload_n hx hb dX1_makeShare_126 rfl (lv_at hl 0 rfl) ?_
      refine fr_get (j := 2) C hP (by have := hk.2.1; omega) (fG_CU adr cs t9 hk) rfl (fun w h => List.mem_cons_of_mem _ (inl_X1 w h)) (by decide) rfl (List.mem_cons_of_mem _ mw_3_1) rfl dX1_makeShare_127 ?_
      refine lv_iload hx hb dX1_makeShare_130 (lv_at hl 1 rfl) ?_
      refine fr_ci (fr_runN (n := 2) (rest := [.int r10, .int (((2 * (fgi t k 8)) - v5)), .ref (adr ((k + 1)))]) C (c_X4_at l D adr cs hN t9 ((k + 1)) 5 (fun u => ((fun u => fG_CS adr cs u hk) u)) (by have := hk.2.1; have := hk.2.2; omega) v5 _ h) hP hS (by decide +kernel) (fgN mw_6_20) rfl rfl rfl (List.mem_cons_of_mem _ mw_1_2) (List.mem_cons_of_mem _ mw_6_19) (by decide +kernel) ⟨Nat.le_of_ble_eq_true rfl, Nat.le_of_ble_eq_true rfl⟩ rfl hl.1 rfl (Nat.le_of_ble_eq_true rfl) dX1_makeShare_132) hS (fun r12 t11 H locs h hP hS => ?_)
      refine lv_imul hx hb dX1_makeShare_135 ?_
      refine fr_cv (fr_runN (n := 3) (rest := []) C (c_X4_put l D adr cs hN t11 ((k + 1)) 5 (fun u => ((fun u => fG_CS adr cs u hk) u)) (by have := hk.2.1; have := hk.2.2; omega) (((2 * (fgi t k 8)) - v5)) ((r10 * r12)) _ h) hP hS (by decide +kernel) (fgN mw_6_9) rfl rfl rfl (List.mem_cons_of_mem _ mw_1_2) (List.mem_cons_of_mem _ mw_6_8) (by decide +kernel) ⟨Nat.le_of_ble_eq_true rfl, Nat.le_of_ble_eq_true rfl⟩ rfl hl.1 rfl (Nat.le_of_ble_eq_true rfl) dX1_makeShare_136) hS (fun t13 H locs h hP hS => ?_)
      obtain ⟨x14, ex14⟩ : ∃ y : Int32, y = v5 + 1 := ⟨_, rfl⟩
      replace h := h x14 ex14
      refine lv_iinc (v := x14) (lv' := [(5, .int x14), (0, .ref (adr k))]) hx hb dX1_makeShare_139 hl (k := 1) rfl (by rw [ex14]; rfl) (by decide) rfl (fun ls hl => ?_)
      refine lv_goto (tgt := 90) hx hb dX1_makeShare_142 (by decide) ?_
      exact ih x14 t13 _ _ _ h hP hS (lv_sub hl [1, 0] rfl)

set_option maxHeartbeats 4000000 in
set_option maxRecDepth 100000 in
theorem c_X1_makeShare (l : Launch) (D : va_G) (adr : Nat → Nat) (cs : Nat → ClassId) {N : Nat} (hN : 53 ≤ N) (t : fcS) (k : Nat) (hk : fisC k) (k0a : Nat) (hk0a : fisF k0a) (k1a : Nat) (hk1a : fisF k1a) (post : fcS → Prop) (h : q_X1_makeShare t k k0a k1a post) : Met l yX1_makeShare wm_X1_makeShare ({ frames := 5, cells := 0, slots := 0, locals := 111 } : Room) (fcPre D adr cs N t [.ref (adr k), .ref (adr k0a), .ref (adr k1a)]) (fQv D adr cs N post) 0 0 (faN adr N) := by
  refine f_enter (cc := cX1_makeShare) (nL := 6) (ret := none) (lv := [(0, .ref (adr k)), (1, .ref (adr k0a)), (2, .ref (adr k1a))]) (own := RX1) (by decide) rfl (Nat.le_of_ble_eq_true rfl) rfl rfl ?_
  intro p e s m below meth c ls C hP hS hl
  have hx := C.1.1
  have hb := C.1.2.1
  unfold q_X1_makeShare at h
  refine lv_aload_n hx hb dX1_makeShare_0 rfl (lv_at hl 0 rfl) ?_
  refine fr_get (j := 0) C hP (by have := hk.2.1; omega) (fG_CU adr cs t hk) rfl (fun w h => List.mem_cons_of_mem _ (inl_X1 w h)) (by decide) rfl (List.mem_cons_of_mem _ mw_3_2) rfl dX1_makeShare_1 ?_
  refine fr_getN (j := 0) C hP (by omega) (fG_PO adr cs t) rfl (fun w h => List.mem_cons_of_mem _ (inl_X3 w h)) (by decide) rfl (by decide +kernel) rfl dX1_makeShare_4 ?_
  refine lv_topi (fun x1 ex1 => ?_)
  replace h := h x1 ex1
  refine lv_istore_n (lv' := [(3, .int x1), (0, .ref (adr k)), (1, .ref (adr k0a)), (2, .ref (adr k1a))]) hx hb dX1_makeShare_7 rfl hl (by decide) rfl (fun ls hl => ?_)
  refine lv_aload_n hx hb dX1_makeShare_8 rfl (lv_at hl 2 rfl) ?_
  refine lv_aload_n hx hb dX1_makeShare_9 rfl (lv_at hl 1 rfl) ?_
  refine fr_get (j := 9) C hP (by have := hk.2.1; omega) (fG_CU adr cs t hk) rfl (fun w h => List.mem_cons_of_mem _ (inl_X1 w h)) (by decide) rfl (List.mem_cons_of_mem _ mw_17_6) rfl dX1_makeShare_10 ?_
  refine fr_ci (fr_runV (n := 1) (rest := []) C (c_X2_pointsOf l D adr cs hN t k0a hk0a ((fgi t k 9)) _ h) hP hS (by have := hk0a.2.1; omega) (fG_FI adr cs t hk0a) rfl (fgV mw_23_20 mw_21_21 mw_21_22 mw_2_2 mw_21_23) rfl rfl rfl (by decide +kernel) ⟨Nat.le_of_ble_eq_true rfl, Nat.le_of_ble_eq_true rfl⟩ rfl hl.1 rfl (Nat.le_of_ble_eq_true rfl) dX1_makeShare_13) hS (fun r3 t2 H locs h hP hS => ?_)
  refine lv_iload_n hx hb dX1_makeShare_16 rfl (lv_at hl 0 rfl) ?_
  refine lv_isub hx hb dX1_makeShare_17 ?_
  refine lv_iconst (v := 1) hx hb dX1_makeShare_18 (by decide) ?_
  refine lv_isub hx hb dX1_makeShare_19 ?_
  refine lv_topi (fun x4 ex4 => ?_)
  replace h := h x4 ex4
  refine lv_istore (lv' := [(4, .int x4), (3, .int x1), (0, .ref (adr k)), (1, .ref (adr k0a)), (2, .ref (adr k1a))]) hx hb dX1_makeShare_20 hl (by decide) rfl (fun ls hl => ?_)
  refine lv_aload_n hx hb dX1_makeShare_22 rfl (lv_at hl 2 rfl) ?_
  refine fr_get (j := 2) C hP (by have := hk.2.1; omega) (fG_CU adr cs t2 hk) rfl (fun w h => List.mem_cons_of_mem _ (inl_X1 w h)) (by decide) rfl (List.mem_cons_of_mem _ mw_3_1) rfl dX1_makeShare_23 ?_
  refine lv_iconst (v := 0) hx hb dX1_makeShare_26 (by decide) ?_
  refine fr_cv (fr_runS (n := 2) (rest := []) C (c_J7_fill_53178 l D adr cs hN t2 ((k + 1)) 5 (fun u => ((fun u => fG_CS adr cs u hk) u)) (by have := hk.2.1; have := hk.2.2; omega) 0 _ h) hP hS (fgS mw_23_21 mw_15_10 mw_15_11 mw_15_12) rfl rfl rfl (by decide +kernel) ⟨Nat.le_of_ble_eq_true rfl, Nat.le_of_ble_eq_true rfl⟩ rfl hl.1 rfl (Nat.le_of_ble_eq_true rfl) dX1_makeShare_27) hS (fun t5 H locs h hP hS => ?_)
  refine lv_aload_n hx hb dX1_makeShare_30 rfl (lv_at hl 2 rfl) ?_
  refine fr_get (j := 2) C hP (by have := hk.2.1; omega) (fG_CU adr cs t5 hk) rfl (fun w h => List.mem_cons_of_mem _ (inl_X1 w h)) (by decide) rfl (List.mem_cons_of_mem _ mw_3_1) rfl dX1_makeShare_31 ?_
  refine lv_iconst (v := 0) hx hb dX1_makeShare_34 (by decide) ?_
  refine lv_iconst (v := 1) hx hb dX1_makeShare_35 (by decide) ?_
  refine fr_cv (fr_runN (n := 3) (rest := []) C (c_X4_put l D adr cs hN t5 ((k + 1)) 5 (fun u => ((fun u => fG_CS adr cs u hk) u)) (by have := hk.2.1; have := hk.2.2; omega) 0 1 _ h) hP hS (by decide +kernel) (fgN mw_6_9) rfl rfl rfl (List.mem_cons_of_mem _ mw_1_2) (List.mem_cons_of_mem _ mw_6_8) (by decide +kernel) ⟨Nat.le_of_ble_eq_true rfl, Nat.le_of_ble_eq_true rfl⟩ rfl hl.1 rfl (Nat.le_of_ble_eq_true rfl) dX1_makeShare_36) hS (fun t6 H locs h hP hS => ?_)
  refine lv_aload_n hx hb dX1_makeShare_39 rfl (lv_at hl 2 rfl) ?_
  refine fr_get (j := 2) C hP (by have := hk.2.1; omega) (fG_CU adr cs t6 hk) rfl (fun w h => List.mem_cons_of_mem _ (inl_X1 w h)) (by decide) rfl (List.mem_cons_of_mem _ mw_3_1) rfl dX1_makeShare_40 ?_
  refine lv_iconst (v := 1) hx hb dX1_makeShare_43 (by decide) ?_
  refine lv_iload hx hb dX1_makeShare_44 (lv_at hl 0 rfl) ?_
  refine fr_cv (fr_runN (n := 3) (rest := []) C (c_X4_put l D adr cs hN t6 ((k + 1)) 5 (fun u => ((fun u => fG_CS adr cs u hk) u)) (by have := hk.2.1; have := hk.2.2; omega) 1 x4 _ h) hP hS (by decide +kernel) (fgN mw_6_9) rfl rfl rfl (List.mem_cons_of_mem _ mw_1_2) (List.mem_cons_of_mem _ mw_6_8) (by decide +kernel) ⟨Nat.le_of_ble_eq_true rfl, Nat.le_of_ble_eq_true rfl⟩ rfl hl.1 rfl (Nat.le_of_ble_eq_true rfl) dX1_makeShare_46) hS (fun t7 H locs h hP hS => ?_)
  refine lv_aload_n hx hb dX1_makeShare_49 rfl (lv_at hl 2 rfl) ?_
  refine fr_get (j := 8) C hP (by have := hk.2.1; omega) (fG_CU adr cs t7 hk) rfl (fun w h => List.mem_cons_of_mem _ (inl_X1 w h)) (by decide) rfl (List.mem_cons_of_mem _ mw_17_5) rfl dX1_makeShare_50 ?_
  refine lv_iconst (v := 2) hx hb dX1_makeShare_53 (by decide) ?_
  refine lv_icmp_ne (tgt := 87) hx hb dX1_makeShare_54 (by decide) (fun c9 => ?_) (fun c9 => ?_)
  · replace h := h.1 c9
    refine lv_iconst (v := 0) hx hb dX1_makeShare_87 (by decide) ?_
    refine lv_istore (lv' := [(5, .int 0), (4, .int x4), (3, .int x1), (0, .ref (adr k)), (1, .ref (adr k0a)), (2, .ref (adr k1a))]) hx hb dX1_makeShare_88 hl (by decide) rfl (fun ls hl => ?_)
    obtain ⟨n9, h⟩ := h
    exact k_X1_makeShare_90 hN C k hk n9 0 t7 _ _ _ h hP hS (lv_sub hl [3, 0] rfl)
  · replace h := h.2 c9
    refine lv_aload_n hx hb dX1_makeShare_57 rfl (lv_at hl 2 rfl) ?_
    refine fr_get (j := 2) C hP (by have := hk.2.1; omega) (fG_CU adr cs t7 hk) rfl (fun w h => List.mem_cons_of_mem _ (inl_X1 w h)) (by decide) rfl (List.mem_cons_of_mem _ mw_3_1) rfl dX1_makeShare_58 ?_
    refine lv_iconst (v := 2) hx hb dX1_makeShare_61 (by decide) ?_
    refine lv_aload_n hx hb dX1_makeShare_62 rfl (lv_at hl 4 rfl) ?_
    refine lv_aload_n hx hb dX1_makeShare_63 rfl (lv_at hl 2 rfl) ?_
    refine fr_get (j := 9) C hP (by have := hk.2.1; omega) (fG_CU adr cs t7 hk) rfl (fun w h => List.mem_cons_of_mem _ (inl_X1 w h)) (by decide) rfl (List.mem_cons_of_mem _ mw_17_6) rfl dX1_makeShare_64 ?_
    refine fr_ci (fr_runV (n := 1) (rest := [.int 2, .ref (adr ((k + 1)))]) C (c_X2_pointsOf l D adr cs hN t7 k1a hk1a ((fgi t7 k 9)) _ h) hP hS (by have := hk1a.2.1; omega) (fG_FI adr cs t7 hk1a) rfl (fgV mw_23_20 mw_21_21 mw_21_22 mw_2_2 mw_21_23) rfl rfl rfl (by decide +kernel) ⟨Nat.le_of_ble_eq_true rfl, Nat.le_of_ble_eq_true rfl⟩ rfl hl.1 rfl (Nat.le_of_ble_eq_true rfl) dX1_makeShare_67) hS (fun r16 t15 H locs h hP hS => ?_)
    refine lv_iload_n hx hb dX1_makeShare_70 rfl (lv_at hl 1 rfl) ?_
    refine lv_iload_n hx hb dX1_makeShare_71 rfl (lv_at hl 1 rfl) ?_
    refine lv_imul hx hb dX1_makeShare_72 ?_
    refine lv_isub hx hb dX1_makeShare_73 ?_
    refine lv_iconst (v := 1) hx hb dX1_makeShare_74 (by decide) ?_
    refine lv_isub hx hb dX1_makeShare_75 ?_
    refine lv_iload hx hb dX1_makeShare_76 (lv_at hl 0 rfl) ?_
    refine lv_iload hx hb dX1_makeShare_78 (lv_at hl 0 rfl) ?_
    refine lv_imul hx hb dX1_makeShare_80 ?_
    refine lv_iadd hx hb dX1_makeShare_81 ?_
    refine lv_iconst (v := 2) hx hb dX1_makeShare_82 (by decide) ?_
    refine lv_idiv hx hb dX1_makeShare_83 h.1 ?_
    replace h := h.2
    refine fr_cv (fr_runN (n := 3) (rest := []) C (c_X4_put l D adr cs hN t15 ((k + 1)) 5 (fun u => ((fun u => fG_CS adr cs u hk) u)) (by have := hk.2.1; have := hk.2.2; omega) 2 (((((r16 - (x1 * x1)) - 1) + (x4 * x4)) / 2)) _ h) hP hS (by decide +kernel) (fgN mw_6_9) rfl rfl rfl (List.mem_cons_of_mem _ mw_1_2) (List.mem_cons_of_mem _ mw_6_8) (by decide +kernel) ⟨Nat.le_of_ble_eq_true rfl, Nat.le_of_ble_eq_true rfl⟩ rfl hl.1 rfl (Nat.le_of_ble_eq_true rfl) dX1_makeShare_84) hS (fun t17 H locs h hP hS => ?_)
    refine lv_iconst (v := 0) hx hb dX1_makeShare_87 (by decide) ?_
    refine lv_istore (lv' := [(5, .int 0), (4, .int x4), (3, .int x1), (0, .ref (adr k)), (1, .ref (adr k0a)), (2, .ref (adr k1a))]) hx hb dX1_makeShare_88 hl (by decide) rfl (fun ls hl => ?_)
    obtain ⟨n9, h⟩ := h
    exact k_X1_makeShare_90 hN C k hk n9 0 t17 _ _ _ h hP hS (lv_sub hl [3, 0] rfl)

