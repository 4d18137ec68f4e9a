/-! X5.addOf -/
abbrev wm_X5_addOf : List Cond := Cond.code yX5_addOf cX5_addOf 4 (some .int) :: wsL_law
def q_X5_addOf_263 (post : Int32 → fcS → Prop) : Nat → Int32 → fcS → Prop
  | 0, _, _ => False
  | n + 1, v1, t => q_X5_degree t 10 (fun (r26 : Int32) (t25 : fcS) => q_X5_genusOf t25 v1 (fun (r28 : Int32) (t27 : fcS) => (r26 ≤ r28 → (q_X5_number t27 10 (fun (r30 : Int32) (t29 : fcS) => q_X5_number t29 11 (fun (r32 : Int32) (t31 : fcS) => q_X5_find t31 r30 r32 (fun (r34 : Int32) (t33 : fcS) => post r34 t33))))) ∧ (¬ r26 ≤ r28 → (q_X5_multiply t27 12 11 11 (fun (t35 : fcS) => q_X5_join t35 14 24 12 (((fgi t35 53 1) - 1)) (fun (t36 : fcS) => q_X5_divide t36 15 16 14 10 (fun (t37 : fcS) => q_X5_copy t37 10 15 (fun (t38 : fcS) => q_X5_degree t38 10 (fun (r40 : Int32) (t39 : fcS) => (vp_in ((160 + r40)) 640) ∧ (q_X5_inverse t39 ((fga t39 60 (Int32.toNatClampNeg ((160 + r40))))) (fun (r42 : Int32) (t41 : fcS) => q_X5_scale t41 10 r42 (fun (t43 : fcS) => q_X5_clear t43 12 (fun (t44 : fcS) => q_X5_join t44 14 12 11 (((fgi t44 53 1) - 1)) (fun (t45 : fcS) => q_X5_divide t45 15 11 14 10 (fun (t46 : fcS) => q_X5_addOf_263 post n v1 t46)))))))))))))))
def q_X5_addOf (t : fcS) (a0 : Int32) (a1 : Int32) (a2 : Int32) (post : Int32 → fcS → Prop) : Prop := (vp_in a1 600) ∧ (q_X5_load t 20 ((fga t 62 (Int32.toNatClampNeg a1))) (fun (t1 : fcS) => (vp_in a1 600) ∧ (q_X5_load t1 21 ((fga t1 63 (Int32.toNatClampNeg a1))) (fun (t2 : fcS) => (vp_in a2 600) ∧ (q_X5_load t2 22 ((fga t2 62 (Int32.toNatClampNeg a2))) (fun (t3 : fcS) => (vp_in a2 600) ∧ (q_X5_load t3 23 ((fga t3 63 (Int32.toNatClampNeg a2))) (fun (t4 : fcS) => q_X5_loadOwn t4 24 a0 (fun (t5 : fcS) => q_X5_common t5 10 11 12 20 22 (fun (t6 : fcS) => q_X5_join t6 25 21 23 1 (fun (t7 : fcS) => q_X5_common t7 13 14 15 10 25 (fun (t8 : fcS) => q_X5_multiply t8 16 14 11 (fun (t9 : fcS) => q_X5_multiply t9 17 14 12 (fun (t10 : fcS) => q_X5_multiply t10 10 16 20 (fun (t11 : fcS) => q_X5_multiply t11 11 10 23 (fun (t12 : fcS) => q_X5_multiply t12 10 17 22 (fun (t13 : fcS) => q_X5_multiply t13 12 10 21 (fun (t14 : fcS) => q_X5_join t14 14 11 12 1 (fun (t15 : fcS) => q_X5_multiply t15 10 21 23 (fun (t16 : fcS) => q_X5_join t16 11 10 24 1 (fun (t17 : fcS) => q_X5_multiply t17 12 15 11 (fun (t18 : fcS) => q_X5_join t18 10 14 12 1 (fun (t19 : fcS) => q_X5_divide t19 18 19 10 13 (fun (t20 : fcS) => q_X5_multiply t20 12 20 22 (fun (t21 : fcS) => q_X5_multiply t21 14 13 13 (fun (t22 : fcS) => q_X5_divide t22 10 19 12 14 (fun (t23 : fcS) => q_X5_divide t23 19 11 18 10 (fun (t24 : fcS) => ∃ n0, q_X5_addOf_263 post n0 a0 t24))))))))))))))))))))))))))))
set_option maxHeartbeats 4000000 in
set_option maxRecDepth 100000 in
theorem k_X5_addOf_263 {D : va_G} {adr : Nat → Nat} {cs : Nat → ClassId} {N : Nat} (hN : 67 ≤ N) {p : Program} {l : Launch} {e : Env} {s : State} {m : MethodId} {args : Array Value} {below : List Frame} {meth : Method} {c : Code} (C : fCx D adr cs N p s m args meth c cX5_addOf 4 (some .int) RX5 wm_X5_addOf) {post : Int32 → fcS → Prop} : ∀ (n : Nat) (v1 : Int32) (t : fcS) (H : Heap) (locs : List Loc) (ls : Array Slot), q_X5_addOf_263 post n v1 t → va_P D vwCl (fwl adr N (fG adr cs t)) H → va_S (faN adr N) s.heap H locs → lv_has ls 4 [(0, .ref (adr 53)), (1, .int v1)] → W p l e ({ frames := 3, cells := 0, slots := 0, locals := 78 } : Room) s m args below meth c H locs 0 0 (MQ below (fQi D adr cs N post) args s 0 0 (faN adr N)) (F0 m 263 ls []) := by
  have hx := C.1.1
  have hb := C.1.2.1
  intro n
  induction n with
  | zero => intro v1 t H locs ls h; exact False.elim h
  | succ n ih =>
    intro v1 t H locs ls h hP hS hl
    unfold q_X5_addOf_263 at h
    refine lv_aload_n hx hb dX5_addOf_263 rfl (lv_at hl 0 rfl) ?_
    refine lv_bipush (v := 10) hx hb dX5_addOf_264 (by decide) ?_
    refine fr_ci (fr_runV (n := 1) (rest := []) C (c_X5_degree l D adr cs hN t 10 _ h) hP hS (by omega) (fG_MO adr cs t) rfl (fgV mw_9_1 mw_9_2 mw_9_3 mw_1_5 mw_9_4) rfl rfl rfl (by decide +kernel) ⟨Nat.le_of_ble_eq_true rfl, Nat.le_of_ble_eq_true rfl⟩ rfl hl.1 rfl (Nat.le_of_ble_eq_true rfl) dX5_addOf_266) hS (fun r26 t25 H locs h hP hS => ?_)
    refine lv_aload_n hx hb dX5_addOf_269 rfl (lv_at hl 0 rfl) ?_
    refine lv_iload_n hx hb dX5_addOf_270 rfl (lv_at hl 1 rfl) ?_
    refine fr_ci (fr_runV (n := 1) (rest := [.int r26]) C (c_X5_genusOf l D adr cs hN t25 v1 _ h) hP hS (by omega) (fG_MO adr cs t25) rfl (fgV mw_20_7 mw_20_8 mw_20_9 mw_1_5 mw_20_10) rfl rfl rfl (by decide +kernel) ⟨Nat.le_of_ble_eq_true rfl, Nat.le_of_ble_eq_true rfl⟩ rfl hl.1 rfl (Nat.le_of_ble_eq_true rfl) dX5_addOf_271) hS (fun r28 t27 H locs h hP hS => ?_)
    refine lv_icmp_le (tgt := 385) hx hb dX5_addOf_274 (by decide) (fun c9 => ?_) (fun c9 => ?_)
    · replace h := h.1 c9
      refine lv_aload_n hx hb dX5_addOf_385 rfl (lv_at hl 0 rfl) ?_
      refine lv_aload_n hx hb dX5_addOf_386 rfl (lv_at hl 0 rfl) ?_
      refine lv_bipush (v := 10) hx hb dX5_addOf_387 (by decide) ?_
      refine fr_ci (fr_runV (n := 1) (rest := [.ref (adr 53)]) C (c_X5_number l D adr cs hN t27 10 _ h) hP hS (by omega) (fG_MO adr cs t27) rfl (fgV mw_10_1 mw_10_2 mw_10_3 mw_1_5 mw_10_4) rfl rfl rfl (by decide +kernel) ⟨Nat.le_of_ble_eq_true rfl, Nat.le_of_ble_eq_true rfl⟩ rfl hl.1 rfl (Nat.le_of_ble_eq_true rfl) dX5_addOf_389) hS (fun r30 t29 H locs h hP hS => ?_)
      refine lv_aload_n hx hb dX5_addOf_392 rfl (lv_at hl 0 rfl) ?_
      refine lv_bipush (v := 11) hx hb dX5_addOf_393 (by decide) ?_
      refine fr_ci (fr_runV (n := 1) (rest := [.int r30, .ref (adr 53)]) C (c_X5_number l D adr cs hN t29 11 _ h) hP hS (by omega) (fG_MO adr cs t29) rfl (fgV mw_10_1 mw_10_2 mw_10_3 mw_1_5 mw_10_4) rfl rfl rfl (by decide +kernel) ⟨Nat.le_of_ble_eq_true rfl, Nat.le_of_ble_eq_true rfl⟩ rfl hl.1 rfl (Nat.le_of_ble_eq_true rfl) dX5_addOf_395) hS (fun r32 t31 H locs h hP hS => ?_)
      refine fr_ci (fr_runV (n := 2) (rest := []) C (c_X5_find l D adr cs hN t31 r30 r32 _ h) hP hS (by omega) (fG_MO adr cs t31) rfl (fgV mw_32_9 mw_32_10 mw_32_11 mw_1_5 mw_32_12) rfl rfl rfl (by decide +kernel) ⟨Nat.le_of_ble_eq_true rfl, Nat.le_of_ble_eq_true rfl⟩ rfl hl.1 rfl (Nat.le_of_ble_eq_true rfl) dX5_addOf_398) hS (fun r34 t33 H locs h hP hS => ?_)
      exact fr_iret C hP hS h dX5_addOf_401
    · replace h := h.2 c9
      refine lv_aload_n hx hb dX5_addOf_277 rfl (lv_at hl 0 rfl) ?_
      refine lv_bipush (v := 12) hx hb dX5_addOf_278 (by decide) ?_
      refine lv_bipush (v := 11) hx hb dX5_addOf_280 (by decide) ?_
      refine lv_bipush (v := 11) hx hb dX5_addOf_282 (by decide) ?_
      refine fr_cv (fr_runV (n := 3) (rest := []) C (c_X5_multiply l D adr cs hN t27 12 11 11 _ h) hP hS (by omega) (fG_MO adr cs t27) rfl (fgV mw_9_21 mw_9_22 mw_9_23 mw_1_5 mw_10_0) rfl rfl rfl (by decide +kernel) ⟨Nat.le_of_ble_eq_true rfl, Nat.le_of_ble_eq_true rfl⟩ rfl hl.1 rfl (Nat.le_of_ble_eq_true rfl) dX5_addOf_284) hS (fun t35 H locs h hP hS => ?_)
      refine lv_aload_n hx hb dX5_addOf_287 rfl (lv_at hl 0 rfl) ?_
      refine lv_bipush (v := 14) hx hb dX5_addOf_288 (by decide) ?_
      refine lv_bipush (v := 24) hx hb dX5_addOf_290 (by decide) ?_
      refine lv_bipush (v := 12) hx hb dX5_addOf_292 (by decide) ?_
      refine lv_aload_n hx hb dX5_addOf_294 rfl (lv_at hl 0 rfl) ?_
      refine fr_get (j := 1) C hP (by omega) (fG_MO adr cs t35) rfl (fun w h => List.mem_cons_of_mem _ (inl_X5 w h)) (by decide) rfl (List.mem_cons_of_mem _ mw_7_5) rfl dX5_addOf_295 ?_
      refine lv_iconst (v := 1) hx hb dX5_addOf_298 (by decide) ?_
      refine lv_isub hx hb dX5_addOf_299 ?_
      refine fr_cv (fr_runV (n := 4) (rest := []) C (c_X5_join l D adr cs hN t35 14 24 12 (((fgi t35 53 1) - 1)) _ h) hP hS (by omega) (fG_MO adr cs t35) rfl (fgV mw_18_18 mw_18_19 mw_18_20 mw_1_5 mw_18_21) rfl rfl rfl (by decide +kernel) ⟨Nat.le_of_ble_eq_true rfl, Nat.le_of_ble_eq_true rfl⟩ rfl hl.1 rfl (Nat.le_of_ble_eq_true rfl) dX5_addOf_300) hS (fun t36 H locs h hP hS => ?_)
      refine lv_aload_n hx hb dX5_addOf_303 rfl (lv_at hl 0 rfl) ?_
      refine lv_bipush (v := 15) hx hb dX5_addOf_304 (by decide) ?_
      refine lv_bipush (v := 16) hx hb dX5_addOf_306 (by decide) ?_
      refine lv_bipush (v := 14) hx hb dX5_addOf_308 (by decide) ?_
      refine lv_bipush (v := 10) hx hb dX5_addOf_310 (by decide) ?_
      refine fr_cv (fr_runV (n := 4) (rest := []) C (c_X5_divide l D adr cs hN t36 15 16 14 10 _ h) hP hS (by omega) (fG_MO adr cs t36) rfl (fgV mw_8_13 mw_8_14 mw_8_15 mw_1_5 mw_8_16) rfl rfl rfl (by decide +kernel) ⟨Nat.le_of_ble_eq_true rfl, Nat.le_of_ble_eq_true rfl⟩ rfl hl.1 rfl (Nat.le_of_ble_eq_true rfl) dX5_addOf_312) hS (fun t37 H locs h hP hS => ?_)
      refine lv_aload_n hx hb dX5_addOf_315 rfl (lv_at hl 0 rfl) ?_
      refine lv_bipush (v := 10) hx hb dX5_addOf_316 (by decide) ?_
      refine lv_bipush (v := 15) hx hb dX5_addOf_318 (by decide) ?_
      refine fr_cv (fr_runV (n := 2) (rest := []) C (c_X5_copy l D adr cs hN t37 10 15 _ h) hP hS (by omega) (fG_MO adr cs t37) rfl (fgV mw_8_21 mw_8_22 mw_8_23 mw_1_5 mw_9_0) rfl rfl rfl (by decide +kernel) ⟨Nat.le_of_ble_eq_true rfl, Nat.le_of_ble_eq_true rfl⟩ rfl hl.1 rfl (Nat.le_of_ble_eq_true rfl) dX5_addOf_320) hS (fun t38 H locs h hP hS => ?_)
      refine lv_aload_n hx hb dX5_addOf_323 rfl (lv_at hl 0 rfl) ?_
      refine lv_bipush (v := 10) hx hb dX5_addOf_324 (by decide) ?_
      refine lv_aload_n hx hb dX5_addOf_326 rfl (lv_at hl 0 rfl) ?_
      refine lv_aload_n hx hb dX5_addOf_327 rfl (lv_at hl 0 rfl) ?_
      refine fr_get (j := 13) C hP (by omega) (fG_MO adr cs t38) rfl (fun w h => List.mem_cons_of_mem _ (inl_X5 w h)) (by decide) rfl (List.mem_cons_of_mem _ mw_7_14) rfl dX5_addOf_328 ?_
      refine lv_sipush (v := 160) hx hb dX5_addOf_331 (by decide) ?_
      refine lv_aload_n hx hb dX5_addOf_334 rfl (lv_at hl 0 rfl) ?_
      refine lv_bipush (v := 10) hx hb dX5_addOf_335 (by decide) ?_
      refine fr_ci (fr_runV (n := 1) (rest := [.int 160, .ref (adr 60), .ref (adr 53), .int 10, .ref (adr 53)]) C (c_X5_degree l D adr cs hN t38 10 _ h) hP hS (by omega) (fG_MO adr cs t38) rfl (fgV mw_9_1 mw_9_2 mw_9_3 mw_1_5 mw_9_4) rfl rfl rfl (by decide +kernel) ⟨Nat.le_of_ble_eq_true rfl, Nat.le_of_ble_eq_true rfl⟩ rfl hl.1 rfl (Nat.le_of_ble_eq_true rfl) dX5_addOf_337) hS (fun r40 t39 H locs h hP hS => ?_)
      refine lv_iadd hx hb dX5_addOf_340 ?_
      refine fr_iald C hP (by omega) (fG_60 adr cs t39) h.1 dX5_addOf_341 ?_
      replace h := h.2
      refine fr_ci (fr_runV (n := 1) (rest := [.int 10, .ref (adr 53)]) C (c_X5_inverse l D adr cs hN t39 ((fga t39 60 (Int32.toNatClampNeg ((160 + r40))))) _ h) hP hS (by omega) (fG_MO adr cs t39) rfl (fgV mw_9_5 mw_9_6 mw_9_7 mw_1_5 mw_9_8) rfl rfl rfl (by decide +kernel) ⟨Nat.le_of_ble_eq_true rfl, Nat.le_of_ble_eq_true rfl⟩ rfl hl.1 rfl (Nat.le_of_ble_eq_true rfl) dX5_addOf_342) hS (fun r42 t41 H locs h hP hS => ?_)
      refine fr_cv (fr_runV (n := 2) (rest := []) C (c_X5_scale l D adr cs hN t41 10 r42 _ h) hP hS (by omega) (fG_MO adr cs t41) rfl (fgV mw_18_22 mw_18_23 mw_19_0 mw_1_5 mw_19_1) rfl rfl rfl (by decide +kernel) ⟨Nat.le_of_ble_eq_true rfl, Nat.le_of_ble_eq_true rfl⟩ rfl hl.1 rfl (Nat.le_of_ble_eq_true rfl) dX5_addOf_345) hS (fun t43 H locs h hP hS => ?_)
      refine lv_aload_n hx hb dX5_addOf_348 rfl (lv_at hl 0 rfl) ?_
      refine lv_bipush (v := 12) hx hb dX5_addOf_349 (by decide) ?_
      refine fr_cv (fr_runV (n := 1) (rest := []) C (c_X5_clear l D adr cs hN t43 12 _ h) hP hS (by omega) (fG_MO adr cs t43) rfl (fgV mw_8_17 mw_8_18 mw_8_19 mw_1_5 mw_8_20) rfl rfl rfl (by decide +kernel) ⟨Nat.le_of_ble_eq_true rfl, Nat.le_of_ble_eq_true rfl⟩ rfl hl.1 rfl (Nat.le_of_ble_eq_true rfl) dX5_addOf_351) hS (fun t44 H locs h hP hS => ?_)
      refine lv_aload_n hx hb dX5_addOf_354 rfl (lv_at hl 0 rfl) ?_
      refine lv_bipush (v := 14) hx hb dX5_addOf_355 (by decide) ?_
      refine lv_bipush (v := 12) hx hb dX5_addOf_357 (by decide) ?_
      refine lv_bipush (v := 11) hx hb dX5_addOf_359 (by decide) ?_
      refine lv_aload_n hx hb dX5_addOf_361 rfl (lv_at hl 0 rfl) ?_
      refine fr_get (j := 1) C hP (by omega) (fG_MO adr cs t44) rfl (fun w h => List.mem_cons_of_mem _ (inl_X5 w h)) (by decide) rfl (List.mem_cons_of_mem _ mw_7_5) rfl dX5_addOf_362 ?_
      refine lv_iconst (v := 1) hx hb dX5_addOf_365 (by decide) ?_
      refine lv_isub hx hb dX5_addOf_366 ?_
      refine fr_cv (fr_runV (n := 4) (rest := []) C (c_X5_join l D adr cs hN t44 14 12 11 (((fgi t44 53 1) - 1)) _ h) hP hS (by omega) (fG_MO adr cs t44) rfl (fgV mw_18_18 mw_18_19 mw_18_20 mw_1_5 mw_18_21) rfl rfl rfl (by decide +kernel) ⟨Nat.le_of_ble_eq_true rfl, Nat.le_of_ble_eq_true rfl⟩ rfl hl.1 rfl (Nat.le_of_ble_eq_true rfl) dX5_addOf_367) hS (fun t45 H locs h hP hS => ?_)
      refine lv_aload_n hx hb dX5_addOf_370 rfl (lv_at hl 0 rfl) ?_
      refine lv_bipush (v := 15) hx hb dX5_addOf_371 (by decide) ?_
      refine lv_bipush (v := 11) hx hb dX5_addOf_373 (by decide) ?_
      refine lv_bipush (v := 14) hx hb dX5_addOf_375 (by decide) ?_
      refine lv_bipush (v := 10) hx hb dX5_addOf_377 (by decide) ?_
      refine fr_cv (fr_runV (n := 4) (rest := []) C (c_X5_divide l D adr cs hN t45 15 11 14 10 _ h) hP hS (by omega) (fG_MO adr cs t45) rfl (fgV mw_8_13 mw_8_14 mw_8_15 mw_1_5 mw_8_16) rfl rfl rfl (by decide +kernel) ⟨Nat.le_of_ble_eq_true rfl, Nat.le_of_ble_eq_true rfl⟩ rfl hl.1 rfl (Nat.le_of_ble_eq_true rfl) dX5_addOf_379) hS (fun t46 H locs h hP hS => ?_)
      refine lv_goto (tgt := 263) hx hb dX5_addOf_382 (by decide) ?_
      exact ih v1 t46 _ _ _ h hP hS (lv_sub hl [0, 1] rfl)

set_option maxHeartbeats 4000000 in
set_option maxRecDepth 100000 in
theorem c_X5_addOf (l : Launch) (D : va_G) (adr : Nat → Nat) (cs : Nat → ClassId) {N : Nat} (hN : 67 ≤ N) (t : fcS) (a0 : Int32) (a1 : Int32) (a2 : Int32) (post : Int32 → fcS → Prop) (h : q_X5_addOf t a0 a1 a2 post) : Met l yX5_addOf wm_X5_addOf ({ frames := 3, cells := 0, slots := 0, locals := 78 } : Room) (fcPre D adr cs N t [.ref (adr 53), .int a0, .int a1, .int a2]) (fQi D adr cs N post) 0 0 (faN adr N) := by
  refine f_enter (cc := cX5_addOf) (nL := 4) (ret := some .int) (lv := [(0, .ref (adr 53)), (1, .int a0), (2, .int a1), (3, .int a2)]) (own := RX5) (by decide) rfl (Nat.le_of_ble_eq_true rfl) rfl rfl ?_
  intro p e s m below meth c ls C hP hS hl
  have hx := C.1.1
  have hb := C.1.2.1
  unfold q_X5_addOf at h
  refine lv_aload_n hx hb dX5_addOf_0 rfl (lv_at hl 0 rfl) ?_
  refine lv_bipush (v := 20) hx hb dX5_addOf_1 (by decide) ?_
  refine lv_aload_n hx hb dX5_addOf_3 rfl (lv_at hl 0 rfl) ?_
  refine fr_get (j := 18) C hP (by omega) (fG_MO adr cs t) rfl (fun w h => List.mem_cons_of_mem _ (inl_X5 w h)) (by decide) rfl (List.mem_cons_of_mem _ mw_7_17) rfl dX5_addOf_4 ?_
  refine lv_iload_n hx hb dX5_addOf_7 rfl (lv_at hl 2 rfl) ?_
  refine fr_iald C hP (by omega) (fG_62 adr cs t) h.1 dX5_addOf_8 ?_
  replace h := h.2
  refine fr_cv (fr_runV (n := 2) (rest := []) C (c_X5_load l D adr cs hN t 20 ((fga t 62 (Int32.toNatClampNeg a1))) _ h) hP hS (by omega) (fG_MO adr cs t) rfl (fgV mw_8_9 mw_8_10 mw_8_11 mw_1_5 mw_8_12) rfl rfl rfl (by decide +kernel) ⟨Nat.le_of_ble_eq_true rfl, Nat.le_of_ble_eq_true rfl⟩ rfl hl.1 rfl (Nat.le_of_ble_eq_true rfl) dX5_addOf_9) hS (fun t1 H locs h hP hS => ?_)
  refine lv_aload_n hx hb dX5_addOf_12 rfl (lv_at hl 0 rfl) ?_
  refine lv_bipush (v := 21) hx hb dX5_addOf_13 (by decide) ?_
  refine lv_aload_n hx hb dX5_addOf_15 rfl (lv_at hl 0 rfl) ?_
  refine fr_get (j := 19) C hP (by omega) (fG_MO adr cs t1) rfl (fun w h => List.mem_cons_of_mem _ (inl_X5 w h)) (by decide) rfl (List.mem_cons_of_mem _ mw_7_18) rfl dX5_addOf_16 ?_
  refine lv_iload_n hx hb dX5_addOf_19 rfl (lv_at hl 2 rfl) ?_
  refine fr_iald C hP (by omega) (fG_63 adr cs t1) h.1 dX5_addOf_20 ?_
  replace h := h.2
  refine fr_cv (fr_runV (n := 2) (rest := []) C (c_X5_load l D adr cs hN t1 21 ((fga t1 63 (Int32.toNatClampNeg a1))) _ h) hP hS (by omega) (fG_MO adr cs t1) rfl (fgV mw_8_9 mw_8_10 mw_8_11 mw_1_5 mw_8_12) rfl rfl rfl (by decide +kernel) ⟨Nat.le_of_ble_eq_true rfl, Nat.le_of_ble_eq_true rfl⟩ rfl hl.1 rfl (Nat.le_of_ble_eq_true rfl) dX5_addOf_21) hS (fun t2 H locs h hP hS => ?_)
  refine lv_aload_n hx hb dX5_addOf_24 rfl (lv_at hl 0 rfl) ?_
  refine lv_bipush (v := 22) hx hb dX5_addOf_25 (by decide) ?_
  refine lv_aload_n hx hb dX5_addOf_27 rfl (lv_at hl 0 rfl) ?_
  refine fr_get (j := 18) C hP (by omega) (fG_MO adr cs t2) rfl (fun w h => List.mem_cons_of_mem _ (inl_X5 w h)) (by decide) rfl (List.mem_cons_of_mem _ mw_7_17) rfl dX5_addOf_28 ?_
  refine lv_iload_n hx hb dX5_addOf_31 rfl (lv_at hl 3 rfl) ?_
  refine fr_iald C hP (by omega) (fG_62 adr cs t2) h.1 dX5_addOf_32 ?_
  replace h := h.2
  refine fr_cv (fr_runV (n := 2) (rest := []) C (c_X5_load l D adr cs hN t2 22 ((fga t2 62 (Int32.toNatClampNeg a2))) _ h) hP hS (by omega) (fG_MO adr cs t2) rfl (fgV mw_8_9 mw_8_10 mw_8_11 mw_1_5 mw_8_12) rfl rfl rfl (by decide +kernel) ⟨Nat.le_of_ble_eq_true rfl, Nat.le_of_ble_eq_true rfl⟩ rfl hl.1 rfl (Nat.le_of_ble_eq_true rfl) dX5_addOf_33) hS (fun t3 H locs h hP hS => ?_)
  refine lv_aload_n hx hb dX5_addOf_36 rfl (lv_at hl 0 rfl) ?_
  refine lv_bipush (v := 23) hx hb dX5_addOf_37 (by decide) ?_
  refine lv_aload_n hx hb dX5_addOf_39 rfl (lv_at hl 0 rfl) ?_
  refine fr_get (j := 19) C hP (by omega) (fG_MO adr cs t3) rfl (fun w h => List.mem_cons_of_mem _ (inl_X5 w h)) (by decide) rfl (List.mem_cons_of_mem _ mw_7_18) rfl dX5_addOf_40 ?_
  refine lv_iload_n hx hb dX5_addOf_43 rfl (lv_at hl 3 rfl) ?_
  refine fr_iald C hP (by omega) (fG_63 adr cs t3) h.1 dX5_addOf_44 ?_
  replace h := h.2
  refine fr_cv (fr_runV (n := 2) (rest := []) C (c_X5_load l D adr cs hN t3 23 ((fga t3 63 (Int32.toNatClampNeg a2))) _ h) hP hS (by omega) (fG_MO adr cs t3) rfl (fgV mw_8_9 mw_8_10 mw_8_11 mw_1_5 mw_8_12) rfl rfl rfl (by decide +kernel) ⟨Nat.le_of_ble_eq_true rfl, Nat.le_of_ble_eq_true rfl⟩ rfl hl.1 rfl (Nat.le_of_ble_eq_true rfl) dX5_addOf_45) hS (fun t4 H locs h hP hS => ?_)
  refine lv_aload_n hx hb dX5_addOf_48 rfl (lv_at hl 0 rfl) ?_
  refine lv_bipush (v := 24) hx hb dX5_addOf_49 (by decide) ?_
  refine lv_iload_n hx hb dX5_addOf_51 rfl (lv_at hl 1 rfl) ?_
  refine fr_cv (fr_runV (n := 2) (rest := []) C (c_X5_loadOwn l D adr cs hN t4 24 a0 _ h) hP hS (by omega) (fG_MO adr cs t4) rfl (fgV mw_20_11 mw_20_12 mw_20_13 mw_1_5 mw_20_14) rfl rfl rfl (by decide +kernel) ⟨Nat.le_of_ble_eq_true rfl, Nat.le_of_ble_eq_true rfl⟩ rfl hl.1 rfl (Nat.le_of_ble_eq_true rfl) dX5_addOf_52) hS (fun t5 H locs h hP hS => ?_)
  refine lv_aload_n hx hb dX5_addOf_55 rfl (lv_at hl 0 rfl) ?_
  refine lv_bipush (v := 10) hx hb dX5_addOf_56 (by decide) ?_
  refine lv_bipush (v := 11) hx hb dX5_addOf_58 (by decide) ?_
  refine lv_bipush (v := 12) hx hb dX5_addOf_60 (by decide) ?_
  refine lv_bipush (v := 20) hx hb dX5_addOf_62 (by decide) ?_
  refine lv_bipush (v := 22) hx hb dX5_addOf_64 (by decide) ?_
  refine fr_cv (fr_runV (n := 5) (rest := []) C (c_X5_common l D adr cs hN t5 10 11 12 20 22 _ h) hP hS (by omega) (fG_MO adr cs t5) rfl (fgV mw_18_14 mw_18_15 mw_18_16 mw_1_5 mw_18_17) rfl rfl rfl (by decide +kernel) ⟨Nat.le_of_ble_eq_true rfl, Nat.le_of_ble_eq_true rfl⟩ rfl hl.1 rfl (Nat.le_of_ble_eq_true rfl) dX5_addOf_66) hS (fun t6 H locs h hP hS => ?_)
  refine lv_aload_n hx hb dX5_addOf_69 rfl (lv_at hl 0 rfl) ?_
  refine lv_bipush (v := 25) hx hb dX5_addOf_70 (by decide) ?_
  refine lv_bipush (v := 21) hx hb dX5_addOf_72 (by decide) ?_
  refine lv_bipush (v := 23) hx hb dX5_addOf_74 (by decide) ?_
  refine lv_iconst (v := 1) hx hb dX5_addOf_76 (by decide) ?_
  refine fr_cv (fr_runV (n := 4) (rest := []) C (c_X5_join l D adr cs hN t6 25 21 23 1 _ h) hP hS (by omega) (fG_MO adr cs t6) rfl (fgV mw_18_18 mw_18_19 mw_18_20 mw_1_5 mw_18_21) rfl rfl rfl (by decide +kernel) ⟨Nat.le_of_ble_eq_true rfl, Nat.le_of_ble_eq_true rfl⟩ rfl hl.1 rfl (Nat.le_of_ble_eq_true rfl) dX5_addOf_77) hS (fun t7 H locs h hP hS => ?_)
  refine lv_aload_n hx hb dX5_addOf_80 rfl (lv_at hl 0 rfl) ?_
  refine lv_bipush (v := 13) hx hb dX5_addOf_81 (by decide) ?_
  refine lv_bipush (v := 14) hx hb dX5_addOf_83 (by decide) ?_
  refine lv_bipush (v := 15) hx hb dX5_addOf_85 (by decide) ?_
  refine lv_bipush (v := 10) hx hb dX5_addOf_87 (by decide) ?_
  refine lv_bipush (v := 25) hx hb dX5_addOf_89 (by decide) ?_
  refine fr_cv (fr_runV (n := 5) (rest := []) C (c_X5_common l D adr cs hN t7 13 14 15 10 25 _ h) hP hS (by omega) (fG_MO adr cs t7) rfl (fgV mw_18_14 mw_18_15 mw_18_16 mw_1_5 mw_18_17) rfl rfl rfl (by decide +kernel) ⟨Nat.le_of_ble_eq_true rfl, Nat.le_of_ble_eq_true rfl⟩ rfl hl.1 rfl (Nat.le_of_ble_eq_true rfl) dX5_addOf_91) hS (fun t8 H locs h hP hS => ?_)
  refine lv_aload_n hx hb dX5_addOf_94 rfl (lv_at hl 0 rfl) ?_
  refine lv_bipush (v := 16) hx hb dX5_addOf_95 (by decide) ?_
  refine lv_bipush (v := 14) hx hb dX5_addOf_97 (by decide) ?_
  refine lv_bipush (v := 11) hx hb dX5_addOf_99 (by decide) ?_
  refine fr_cv (fr_runV (n := 3) (rest := []) C (c_X5_multiply l D adr cs hN t8 16 14 11 _ h) hP hS (by omega) (fG_MO adr cs t8) rfl (fgV mw_9_21 mw_9_22 mw_9_23 mw_1_5 mw_10_0) rfl rfl rfl (by decide +kernel) ⟨Nat.le_of_ble_eq_true rfl, Nat.le_of_ble_eq_true rfl⟩ rfl hl.1 rfl (Nat.le_of_ble_eq_true rfl) dX5_addOf_101) hS (fun t9 H locs h hP hS => ?_)
  refine lv_aload_n hx hb dX5_addOf_104 rfl (lv_at hl 0 rfl) ?_
  refine lv_bipush (v := 17) hx hb dX5_addOf_105 (by decide) ?_
  refine lv_bipush (v := 14) hx hb dX5_addOf_107 (by decide) ?_
  refine lv_bipush (v := 12) hx hb dX5_addOf_109 (by decide) ?_
  refine fr_cv (fr_runV (n := 3) (rest := []) C (c_X5_multiply l D adr cs hN t9 17 14 12 _ h) hP hS (by omega) (fG_MO adr cs t9) rfl (fgV mw_9_21 mw_9_22 mw_9_23 mw_1_5 mw_10_0) rfl rfl rfl (by decide +kernel) ⟨Nat.le_of_ble_eq_true rfl, Nat.le_of_ble_eq_true rfl⟩ rfl hl.1 rfl (Nat.le_of_ble_eq_true rfl) dX5_addOf_111) hS (fun t10 H locs h hP hS => ?_)
  refine lv_aload_n hx hb dX5_addOf_114 rfl (lv_at hl 0 rfl) ?_
  refine lv_bipush (v := 10) hx hb dX5_addOf_115 (by decide) ?_
  refine lv_bipush (v := 16) hx hb dX5_addOf_117 (by decide) ?_
  refine lv_bipush (v := 20) hx hb dX5_addOf_119 (by decide) ?_
  refine fr_cv (fr_runV (n := 3) (rest := []) C (c_X5_multiply l D adr cs hN t10 10 16 20 _ h) hP hS (by omega) (fG_MO adr cs t10) rfl (fgV mw_9_21 mw_9_22 mw_9_23 mw_1_5 mw_10_0) rfl rfl rfl (by decide +kernel) ⟨Nat.le_of_ble_eq_true rfl, Nat.le_of_ble_eq_true rfl⟩ rfl hl.1 rfl (Nat.le_of_ble_eq_true rfl) dX5_addOf_121) hS (fun t11 H locs h hP hS => ?_)
  refine lv_aload_n hx hb dX5_addOf_124 rfl (lv_at hl 0 rfl) ?_
  refine lv_bipush (v := 11) hx hb dX5_addOf_125 (by decide) ?_
  refine lv_bipush (v := 10) hx hb dX5_addOf_127 (by decide) ?_
  refine lv_bipush (v := 23) hx hb dX5_addOf_129 (by decide) ?_
  refine fr_cv (fr_runV (n := 3) (rest := []) C (c_X5_multiply l D adr cs hN t11 11 10 23 _ h) hP hS (by omega) (fG_MO adr cs t11) rfl (fgV mw_9_21 mw_9_22 mw_9_23 mw_1_5 mw_10_0) rfl rfl rfl (by decide +kernel) ⟨Nat.le_of_ble_eq_true rfl, Nat.le_of_ble_eq_true rfl⟩ rfl hl.1 rfl (Nat.le_of_ble_eq_true rfl) dX5_addOf_131) hS (fun t12 H locs h hP hS => ?_)
  refine lv_aload_n hx hb dX5_addOf_134 rfl (lv_at hl 0 rfl) ?_
  refine lv_bipush (v := 10) hx hb dX5_addOf_135 (by decide) ?_
  refine lv_bipush (v := 17) hx hb dX5_addOf_137 (by decide) ?_
  refine lv_bipush (v := 22) hx hb dX5_addOf_139 (by decide) ?_
  refine fr_cv (fr_runV (n := 3) (rest := []) C (c_X5_multiply l D adr cs hN t12 10 17 22 _ h) hP hS (by omega) (fG_MO adr cs t12) rfl (fgV mw_9_21 mw_9_22 mw_9_23 mw_1_5 mw_10_0) rfl rfl rfl (by decide +kernel) ⟨Nat.le_of_ble_eq_true rfl, Nat.le_of_ble_eq_true rfl⟩ rfl hl.1 rfl (Nat.le_of_ble_eq_true rfl) dX5_addOf_141) hS (fun t13 H locs h hP hS => ?_)
  refine lv_aload_n hx hb dX5_addOf_144 rfl (lv_at hl 0 rfl) ?_
  refine lv_bipush (v := 12) hx hb dX5_addOf_145 (by decide) ?_
  refine lv_bipush (v := 10) hx hb dX5_addOf_147 (by decide) ?_
  refine lv_bipush (v := 21) hx hb dX5_addOf_149 (by decide) ?_
  refine fr_cv (fr_runV (n := 3) (rest := []) C (c_X5_multiply l D adr cs hN t13 12 10 21 _ h) hP hS (by omega) (fG_MO adr cs t13) rfl (fgV mw_9_21 mw_9_22 mw_9_23 mw_1_5 mw_10_0) rfl rfl rfl (by decide +kernel) ⟨Nat.le_of_ble_eq_true rfl, Nat.le_of_ble_eq_true rfl⟩ rfl hl.1 rfl (Nat.le_of_ble_eq_true rfl) dX5_addOf_151) hS (fun t14 H locs h hP hS => ?_)
  refine lv_aload_n hx hb dX5_addOf_154 rfl (lv_at hl 0 rfl) ?_
  refine lv_bipush (v := 14) hx hb dX5_addOf_155 (by decide) ?_
  refine lv_bipush (v := 11) hx hb dX5_addOf_157 (by decide) ?_
  refine lv_bipush (v := 12) hx hb dX5_addOf_159 (by decide) ?_
  refine lv_iconst (v := 1) hx hb dX5_addOf_161 (by decide) ?_
  refine fr_cv (fr_runV (n := 4) (rest := []) C (c_X5_join l D adr cs hN t14 14 11 12 1 _ h) hP hS (by omega) (fG_MO adr cs t14) rfl (fgV mw_18_18 mw_18_19 mw_18_20 mw_1_5 mw_18_21) rfl rfl rfl (by decide +kernel) ⟨Nat.le_of_ble_eq_true rfl, Nat.le_of_ble_eq_true rfl⟩ rfl hl.1 rfl (Nat.le_of_ble_eq_true rfl) dX5_addOf_162) hS (fun t15 H locs h hP hS => ?_)
  refine lv_aload_n hx hb dX5_addOf_165 rfl (lv_at hl 0 rfl) ?_
  refine lv_bipush (v := 10) hx hb dX5_addOf_166 (by decide) ?_
  refine lv_bipush (v := 21) hx hb dX5_addOf_168 (by decide) ?_
  refine lv_bipush (v := 23) hx hb dX5_addOf_170 (by decide) ?_
  refine fr_cv (fr_runV (n := 3) (rest := []) C (c_X5_multiply l D adr cs hN t15 10 21 23 _ h) hP hS (by omega) (fG_MO adr cs t15) rfl (fgV mw_9_21 mw_9_22 mw_9_23 mw_1_5 mw_10_0) rfl rfl rfl (by decide +kernel) ⟨Nat.le_of_ble_eq_true rfl, Nat.le_of_ble_eq_true rfl⟩ rfl hl.1 rfl (Nat.le_of_ble_eq_true rfl) dX5_addOf_172) hS (fun t16 H locs h hP hS => ?_)
  refine lv_aload_n hx hb dX5_addOf_175 rfl (lv_at hl 0 rfl) ?_
  refine lv_bipush (v := 11) hx hb dX5_addOf_176 (by decide) ?_
  refine lv_bipush (v := 10) hx hb dX5_addOf_178 (by decide) ?_
  refine lv_bipush (v := 24) hx hb dX5_addOf_180 (by decide) ?_
  refine lv_iconst (v := 1) hx hb dX5_addOf_182 (by decide) ?_
  refine fr_cv (fr_runV (n := 4) (rest := []) C (c_X5_join l D adr cs hN t16 11 10 24 1 _ h) hP hS (by omega) (fG_MO adr cs t16) rfl (fgV mw_18_18 mw_18_19 mw_18_20 mw_1_5 mw_18_21) rfl rfl rfl (by decide +kernel) ⟨Nat.le_of_ble_eq_true rfl, Nat.le_of_ble_eq_true rfl⟩ rfl hl.1 rfl (Nat.le_of_ble_eq_true rfl) dX5_addOf_183) hS (fun t17 H locs h hP hS => ?_)
  refine lv_aload_n hx hb dX5_addOf_186 rfl (lv_at hl 0 rfl) ?_
  refine lv_bipush (v := 12) hx hb dX5_addOf_187 (by decide) ?_
  refine lv_bipush (v := 15) hx hb dX5_addOf_189 (by decide) ?_
  refine lv_bipush (v := 11) hx hb dX5_addOf_191 (by decide) ?_
  refine fr_cv (fr_runV (n := 3) (rest := []) C (c_X5_multiply l D adr cs hN t17 12 15 11 _ h) hP hS (by omega) (fG_MO adr cs t17) rfl (fgV mw_9_21 mw_9_22 mw_9_23 mw_1_5 mw_10_0) rfl rfl rfl (by decide +kernel) ⟨Nat.le_of_ble_eq_true rfl, Nat.le_of_ble_eq_true rfl⟩ rfl hl.1 rfl (Nat.le_of_ble_eq_true rfl) dX5_addOf_193) hS (fun t18 H locs h hP hS => ?_)
  refine lv_aload_n hx hb dX5_addOf_196 rfl (lv_at hl 0 rfl) ?_
  refine lv_bipush (v := 10) hx hb dX5_addOf_197 (by decide) ?_
  refine lv_bipush (v := 14) hx hb dX5_addOf_199 (by decide) ?_
  refine lv_bipush (v := 12) hx hb dX5_addOf_201 (by decide) ?_
  refine lv_iconst (v := 1) hx hb dX5_addOf_203 (by decide) ?_
  refine fr_cv (fr_runV (n := 4) (rest := []) C (c_X5_join l D adr cs hN t18 10 14 12 1 _ h) hP hS (by omega) (fG_MO adr cs t18) rfl (fgV mw_18_18 mw_18_19 mw_18_20 mw_1_5 mw_18_21) rfl rfl rfl (by decide +kernel) ⟨Nat.le_of_ble_eq_true rfl, Nat.le_of_ble_eq_true rfl⟩ rfl hl.1 rfl (Nat.le_of_ble_eq_true rfl) dX5_addOf_204) hS (fun t19 H locs h hP hS => ?_)
  refine lv_aload_n hx hb dX5_addOf_207 rfl (lv_at hl 0 rfl) ?_
  refine lv_bipush (v := 18) hx hb dX5_addOf_208 (by decide) ?_
  refine lv_bipush (v := 19) hx hb dX5_addOf_210 (by decide) ?_
  refine lv_bipush (v := 10) hx hb dX5_addOf_212 (by decide) ?_
  refine lv_bipush (v := 13) hx hb dX5_addOf_214 (by decide) ?_
  refine fr_cv (fr_runV (n := 4) (rest := []) C (c_X5_divide l D adr cs hN t19 18 19 10 13 _ h) hP hS (by omega) (fG_MO adr cs t19) rfl (fgV mw_8_13 mw_8_14 mw_8_15 mw_1_5 mw_8_16) rfl rfl rfl (by decide +kernel) ⟨Nat.le_of_ble_eq_true rfl, Nat.le_of_ble_eq_true rfl⟩ rfl hl.1 rfl (Nat.le_of_ble_eq_true rfl) dX5_addOf_216) hS (fun t20 H locs h hP hS => ?_)
  refine lv_aload_n hx hb dX5_addOf_219 rfl (lv_at hl 0 rfl) ?_
  refine lv_bipush (v := 12) hx hb dX5_addOf_220 (by decide) ?_
  refine lv_bipush (v := 20) hx hb dX5_addOf_222 (by decide) ?_
  refine lv_bipush (v := 22) hx hb dX5_addOf_224 (by decide) ?_
  refine fr_cv (fr_runV (n := 3) (rest := []) C (c_X5_multiply l D adr cs hN t20 12 20 22 _ h) hP hS (by omega) (fG_MO adr cs t20) rfl (fgV mw_9_21 mw_9_22 mw_9_23 mw_1_5 mw_10_0) rfl rfl rfl (by decide +kernel) ⟨Nat.le_of_ble_eq_true rfl, Nat.le_of_ble_eq_true rfl⟩ rfl hl.1 rfl (Nat.le_of_ble_eq_true rfl) dX5_addOf_226) hS (fun t21 H locs h hP hS => ?_)
  refine lv_aload_n hx hb dX5_addOf_229 rfl (lv_at hl 0 rfl) ?_
  refine lv_bipush (v := 14) hx hb dX5_addOf_230 (by decide) ?_
  refine lv_bipush (v := 13) hx hb dX5_addOf_232 (by decide) ?_
  refine lv_bipush (v := 13) hx hb dX5_addOf_234 (by decide) ?_
  refine fr_cv (fr_runV (n := 3) (rest := []) C (c_X5_multiply l D adr cs hN t21 14 13 13 _ h) hP hS (by omega) (fG_MO adr cs t21) rfl (fgV mw_9_21 mw_9_22 mw_9_23 mw_1_5 mw_10_0) rfl rfl rfl (by decide +kernel) ⟨Nat.le_of_ble_eq_true rfl, Nat.le_of_ble_eq_true rfl⟩ rfl hl.1 rfl (Nat.le_of_ble_eq_true rfl) dX5_addOf_236) hS (fun t22 H locs h hP hS => ?_)
  refine lv_aload_n hx hb dX5_addOf_239 rfl (lv_at hl 0 rfl) ?_
  refine lv_bipush (v := 10) hx hb dX5_addOf_240 (by decide) ?_
  refine lv_bipush (v := 19) hx hb dX5_addOf_242 (by decide) ?_
  refine lv_bipush (v := 12) hx hb dX5_addOf_244 (by decide) ?_
  refine lv_bipush (v := 14) hx hb dX5_addOf_246 (by decide) ?_
  refine fr_cv (fr_runV (n := 4) (rest := []) C (c_X5_divide l D adr cs hN t22 10 19 12 14 _ h) hP hS (by omega) (fG_MO adr cs t22) rfl (fgV mw_8_13 mw_8_14 mw_8_15 mw_1_5 mw_8_16) rfl rfl rfl (by decide +kernel) ⟨Nat.le_of_ble_eq_true rfl, Nat.le_of_ble_eq_true rfl⟩ rfl hl.1 rfl (Nat.le_of_ble_eq_true rfl) dX5_addOf_248) hS (fun t23 H locs h hP hS => ?_)
  refine lv_aload_n hx hb dX5_addOf_251 rfl (lv_at hl 0 rfl) ?_
  refine lv_bipush (v := 19) hx hb dX5_addOf_252 (by decide) ?_
  refine lv_bipush (v := 11) hx hb dX5_addOf_254 (by decide) ?_
  refine lv_bipush (v := 18) hx hb dX5_addOf_256 (by decide) ?_
  refine lv_bipush (v := 10) hx hb dX5_addOf_258 (by decide) ?_
  refine fr_cv (fr_runV (n := 4) (rest := []) C (c_X5_divide l D adr cs hN t23 19 11 18 10 _ h) hP hS (by omega) (fG_MO adr cs t23) rfl (fgV mw_8_13 mw_8_14 mw_8_15 mw_1_5 mw_8_16) rfl rfl rfl (by decide +kernel) ⟨Nat.le_of_ble_eq_true rfl, Nat.le_of_ble_eq_true rfl⟩ rfl hl.1 rfl (Nat.le_of_ble_eq_true rfl) dX5_addOf_260) hS (fun t24 H locs h hP hS => ?_)
  obtain ⟨n9, h⟩ := h
  exact k_X5_addOf_263 hN C n9 a0 t24 _ _ _ h hP hS (lv_sub hl [0, 1] rfl)

/-! X5.isThere -/
abbrev wm_X5_isThere : List Cond := Cond.code yX5_isThere cX5_isThere 3 (some .boolean) :: wsL_law
def q_X5_isThere (t : fcS) (a0 : Int32) (a1 : Int32) (post : Int32 → fcS → Prop) : Prop := q_X5_hasClasses t a0 (fun (r2 : Int32) (t1 : fcS) => (¬ r2 = 0 → (q_X5_needClasses t1 a0 (fun (t3 : fcS) => q_X5_in t3 ((Int32.toInt64 a1)) 0 ((Int32.toInt64 (((fgi t3 53 17) - 1)))) (fun (r5 : Int32) (t4 : fcS) => (r5 = 0 ∨ r5 = 1) ∧ (post r5 t4))))) ∧ (r2 = 0 → (post 0 t1)))
set_option maxHeartbeats 4000000 in
set_option maxRecDepth 100000 in
theorem c_X5_isThere (l : Launch) (D : va_G) (adr : Nat → Nat) (cs : Nat → ClassId) {N : Nat} (hN : 67 ≤ N) (t : fcS) (a0 : Int32) (a1 : Int32) (post : Int32 → fcS → Prop) (h : q_X5_isThere t a0 a1 post) : Met l yX5_isThere wm_X5_isThere ({ frames := 3, cells := 0, slots := 0, locals := 77 } : Room) (fcPre D adr cs N t [.ref (adr 53), .int a0, .int a1]) (fQi D adr cs N post) 0 0 (faN adr N) := by
  refine f_enter (cc := cX5_isThere) (nL := 3) (ret := some .boolean) (lv := [(0, .ref (adr 53)), (1, .int a0), (2, .int a1)]) (own := RX5) (by decide) rfl (Nat.le_of_ble_eq_true rfl) rfl rfl ?_
  intro p e s m below meth c ls C hP hS hl
  have hx := C.1.1
  have hb := C.1.2.1
  unfold q_X5_isThere at h
  refine lv_aload_n hx hb dX5_isThere_0 rfl (lv_at hl 0 rfl) ?_
  refine lv_iload_n hx hb dX5_isThere_1 rfl (lv_at hl 1 rfl) ?_
  refine fr_ci (fr_runV (n := 1) (rest := []) C (c_X5_hasClasses l D adr cs hN t a0 _ h) hP hS (by omega) (fG_MO adr cs t) rfl (fgV mw_27_14 mw_27_15 mw_27_16 mw_1_5 mw_27_17) rfl rfl rfl (by decide +kernel) ⟨Nat.le_of_ble_eq_true rfl, Nat.le_of_ble_eq_true rfl⟩ rfl hl.1 rfl (Nat.le_of_ble_eq_true rfl) dX5_isThere_2) hS (fun r2 t1 H locs h hP hS => ?_)
  refine lv_if_ne (tgt := 10) hx hb dX5_isThere_5 (by decide) (fun c9 => ?_) (fun c9 => ?_)
  · replace h := h.1 c9
    refine lv_aload_n hx hb dX5_isThere_10 rfl (lv_at hl 0 rfl) ?_
    refine lv_iload_n hx hb dX5_isThere_11 rfl (lv_at hl 1 rfl) ?_
    refine fr_cv (fr_runV (n := 1) (rest := []) C (c_X5_needClasses l D adr cs hN t1 a0 _ h) hP hS (by omega) (fG_MO adr cs t1) rfl (fgV mw_29_3 mw_29_4 mw_29_5 mw_1_5 mw_29_6) rfl rfl rfl (by decide +kernel) ⟨Nat.le_of_ble_eq_true rfl, Nat.le_of_ble_eq_true rfl⟩ rfl hl.1 rfl (Nat.le_of_ble_eq_true rfl) dX5_isThere_12) hS (fun t3 H locs h hP hS => ?_)
    refine lv_iload_n hx hb dX5_isThere_15 rfl (lv_at hl 2 rfl) ?_
    refine lv_i2l hx hb dX5_isThere_16 rfl ?_
    refine lv_lconst (v := 0) hx hb dX5_isThere_17 (by decide) ?_
    refine lv_aload_n hx hb dX5_isThere_18 rfl (lv_at hl 0 rfl) ?_
    refine fr_get (j := 17) C hP (by omega) (fG_MO adr cs t3) rfl (fun w h => List.mem_cons_of_mem _ (inl_X5 w h)) (by decide) rfl (List.mem_cons_of_mem _ mw_29_2) rfl dX5_isThere_19 ?_
    refine lv_iconst (v := 1) hx hb dX5_isThere_22 (by decide) ?_
    refine lv_isub hx hb dX5_isThere_23 ?_
    refine lv_i2l hx hb dX5_isThere_24 rfl ?_
    refine fr_ci (fr_runS (n := 3) (rest := []) C (c_X5_in l D adr cs hN t3 ((Int32.toInt64 a1)) 0 ((Int32.toInt64 (((fgi t3 53 17) - 1)))) _ h) hP hS (fgS mw_11_3 mw_11_4 mw_1_5 mw_11_5) rfl rfl rfl (by decide +kernel) ⟨Nat.le_of_ble_eq_true rfl, Nat.le_of_ble_eq_true rfl⟩ rfl hl.1 rfl (Nat.le_of_ble_eq_true rfl) dX5_isThere_25) hS (fun r5 t4 H locs h hP hS => ?_)
    exact fr_zret C hP hS (by rcases h.1 with q | q <;> rw [q] <;> rfl) h.2 dX5_isThere_28
  · replace h := h.2 c9
    refine lv_iconst (v := 0) hx hb dX5_isThere_8 (by decide) ?_
    exact fr_zret C hP hS rfl h dX5_isThere_9

/-! X5.add -/
abbrev wm_X5_add : List Cond := Cond.code yX5_add cX5_add 4 (some .int) :: wsL_law
def q_X5_add (t : fcS) (a0 : Int32) (a1 : Int32) (a2 : Int32) (post : Int32 → fcS → Prop) : Prop := ∀ t1 : fcS, t1 = fsi t 53 0 0 → (q_X5_isThere t1 a0 a1 (fun (r3 : Int32) (t2 : fcS) => (r3 = 0 → (post ((-1)) t2)) ∧ (¬ r3 = 0 → (q_X5_isThere t2 a0 a2 (fun (r5 : Int32) (t4 : fcS) => (r5 = 0 → (post ((-1)) t4)) ∧ (¬ r5 = 0 → (q_X5_addOf t4 a0 a1 a2 (fun (r7 : Int32) (t6 : fcS) => post r7 t6))))))))
set_option maxHeartbeats 4000000 in
set_option maxRecDepth 100000 in
theorem c_X5_add (l : Launch) (D : va_G) (adr : Nat → Nat) (cs : Nat → ClassId) {N : Nat} (hN : 67 ≤ N) (t : fcS) (a0 : Int32) (a1 : Int32) (a2 : Int32) (post : Int32 → fcS → Prop) (h : q_X5_add t a0 a1 a2 post) : Met l yX5_add wm_X5_add ({ frames := 4, cells := 0, slots := 0, locals := 101 } : Room) (fcPre D adr cs N t [.ref (adr 53), .int a0, .int a1, .int a2]) (fQi D adr cs N post) 0 0 (faN adr N) := by
  refine f_enter (cc := cX5_add) (nL := 4) (ret := some .int) (lv := [(0, .ref (adr 53)), (1, .int a0), (2, .int a1), (3, .int a2)]) (own := RX5) (by decide) rfl (Nat.le_of_ble_eq_true rfl) rfl rfl ?_
  intro p e s m below meth c ls C hP hS hl
  have hx := C.1.1
  have hb := C.1.2.1
  unfold q_X5_add at h
  refine lv_aload_n hx hb dX5_add_0 rfl (lv_at hl 0 rfl) ?_
  refine lv_iconst (v := 0) hx hb dX5_add_1 (by decide) ?_
  refine fr_put C (fsi t 53 0 0) (j := 0) (ty := .int) hP hS (by omega) (fG_MO adr cs t) rfl (fun w h => List.mem_cons_of_mem _ (inl_X5 w h)) tyX5_ok nmX5 (by decide) rfl (List.mem_cons_of_mem _ mw_10_14) rfl (by decide +kernel) rfl rfl (Nat.le_of_ble_eq_true rfl) (fS_MO_0 adr cs t 0) (fG_fsi_ne adr cs t 53 0 0) dX5_add_2 (fun H locs hP hS => ?_)
  obtain ⟨t1, et1⟩ : ∃ y : fcS, y = fsi t 53 0 0 := ⟨_, rfl⟩
  rw [← et1] at hP
  replace h := h t1 et1
  refine lv_aload_n hx hb dX5_add_5 rfl (lv_at hl 0 rfl) ?_
  refine lv_iload_n hx hb dX5_add_6 rfl (lv_at hl 1 rfl) ?_
  refine lv_iload_n hx hb dX5_add_7 rfl (lv_at hl 2 rfl) ?_
  refine fr_ci (fr_runV (n := 2) (rest := []) C (c_X5_isThere l D adr cs hN t1 a0 a1 _ h) hP hS (by omega) (fG_MO adr cs t1) rfl (fgV mw_32_1 mw_32_2 mw_32_3 mw_1_5 mw_32_4) rfl rfl rfl (by decide +kernel) ⟨Nat.le_of_ble_eq_true rfl, Nat.le_of_ble_eq_true rfl⟩ rfl hl.1 rfl (Nat.le_of_ble_eq_true rfl) dX5_add_8) hS (fun r3 t2 H locs h hP hS => ?_)
  refine lv_if_eq (tgt := 33) hx hb dX5_add_11 (by decide) (fun c9 => ?_) (fun c9 => ?_)
  · replace h := h.1 c9
    refine lv_iconst (v := (-1)) hx hb dX5_add_33 (by decide) ?_
    exact fr_iret C hP hS h dX5_add_34
  · replace h := h.2 c9
    refine lv_aload_n hx hb dX5_add_14 rfl (lv_at hl 0 rfl) ?_
    refine lv_iload_n hx hb dX5_add_15 rfl (lv_at hl 1 rfl) ?_
    refine lv_iload_n hx hb dX5_add_16 rfl (lv_at hl 3 rfl) ?_
    refine fr_ci (fr_runV (n := 2) (rest := []) C (c_X5_isThere l D adr cs hN t2 a0 a2 _ h) hP hS (by omega) (fG_MO adr cs t2) rfl (fgV mw_32_1 mw_32_2 mw_32_3 mw_1_5 mw_32_4) rfl rfl rfl (by decide +kernel) ⟨Nat.le_of_ble_eq_true rfl, Nat.le_of_ble_eq_true rfl⟩ rfl hl.1 rfl (Nat.le_of_ble_eq_true rfl) dX5_add_17) hS (fun r5 t4 H locs h hP hS => ?_)
    refine lv_if_eq (tgt := 33) hx hb dX5_add_20 (by decide) (fun c9 => ?_) (fun c9 => ?_)
    · replace h := h.1 c9
      refine lv_iconst (v := (-1)) hx hb dX5_add_33 (by decide) ?_
      exact fr_iret C hP hS h dX5_add_34
    · replace h := h.2 c9
      refine lv_aload_n hx hb dX5_add_23 rfl (lv_at hl 0 rfl) ?_
      refine lv_iload_n hx hb dX5_add_24 rfl (lv_at hl 1 rfl) ?_
      refine lv_iload_n hx hb dX5_add_25 rfl (lv_at hl 2 rfl) ?_
      refine lv_iload_n hx hb dX5_add_26 rfl (lv_at hl 3 rfl) ?_
      refine fr_ci (fr_runV (n := 3) (rest := []) C (c_X5_addOf l D adr cs hN t4 a0 a1 a2 _ h) hP hS (by omega) (fG_MO adr cs t4) rfl (fgV mw_32_5 mw_32_6 mw_32_7 mw_1_5 mw_32_8) rfl rfl rfl (by decide +kernel) ⟨Nat.le_of_ble_eq_true rfl, Nat.le_of_ble_eq_true rfl⟩ rfl hl.1 rfl (Nat.le_of_ble_eq_true rfl) dX5_add_27) hS (fun r7 t6 H locs h hP hS => ?_)
      refine lv_goto (tgt := 34) hx hb dX5_add_30 (by decide) ?_
      exact fr_iret C hP hS h dX5_add_34

/-! X5.minus -/
abbrev wm_X5_minus : List Cond := Cond.code yX5_minus cX5_minus 3 (some .int) :: wsL_law
def q_X5_minus (t : fcS) (a0 : Int32) (a1 : Int32) (post : Int32 → fcS → Prop) : Prop := ∀ t1 : fcS, t1 = fsi t 53 0 0 → (q_X5_isThere t1 a0 a1 (fun (r3 : Int32) (t2 : fcS) => (¬ r3 = 0 → ((vp_in a1 600) ∧ (q_X5_load t2 20 ((fga t2 63 (Int32.toNatClampNeg a1))) (fun (t4 : fcS) => q_X5_scale t4 20 (((fgi t4 53 1) - 1)) (fun (t5 : fcS) => (vp_in a1 600) ∧ (q_X5_number t5 20 (fun (r7 : Int32) (t6 : fcS) => q_X5_find t6 ((fga t5 62 (Int32.toNatClampNeg a1))) r7 (fun (r9 : Int32) (t8 : fcS) => post r9 t8)))))))) ∧ (r3 = 0 → (post ((-1)) t2))))
set_option maxHeartbeats 4000000 in
set_option maxRecDepth 100000 in
theorem c_X5_minus (l : Launch) (D : va_G) (adr : Nat → Nat) (cs : Nat → ClassId) {N : Nat} (hN : 67 ≤ N) (t : fcS) (a0 : Int32) (a1 : Int32) (post : Int32 → fcS → Prop) (h : q_X5_minus t a0 a1 post) : Met l yX5_minus wm_X5_minus ({ frames := 4, cells := 0, slots := 0, locals := 99 } : Room) (fcPre D adr cs N t [.ref (adr 53), .int a0, .int a1]) (fQi D adr cs N post) 0 0 (faN adr N) := by
  refine f_enter (cc := cX5_minus) (nL := 3) (ret := some .int) (lv := [(0, .ref (adr 53)), (1, .int a0), (2, .int a1)]) (own := RX5) (by decide) rfl (Nat.le_of_ble_eq_true rfl) rfl rfl ?_
  intro p e s m below meth c ls C hP hS hl
  have hx := C.1.1
  have hb := C.1.2.1
  unfold q_X5_minus at h
  refine lv_aload_n hx hb dX5_minus_0 rfl (lv_at hl 0 rfl) ?_
  refine lv_iconst (v := 0) hx hb dX5_minus_1 (by decide) ?_
  refine fr_put C (fsi t 53 0 0) (j := 0) (ty := .int) hP hS (by omega) (fG_MO adr cs t) rfl (fun w h => List.mem_cons_of_mem _ (inl_X5 w h)) tyX5_ok nmX5 (by decide) rfl (List.mem_cons_of_mem _ mw_10_14) rfl (by decide +kernel) rfl rfl (Nat.le_of_ble_eq_true rfl) (fS_MO_0 adr cs t 0) (fG_fsi_ne adr cs t 53 0 0) dX5_minus_2 (fun H locs hP hS => ?_)
  obtain ⟨t1, et1⟩ : ∃ y : fcS, y = fsi t 53 0 0 := ⟨_, rfl⟩
  rw [← et1] at hP
  replace h := h t1 et1
  refine lv_aload_n hx hb dX5_minus_5 rfl (lv_at hl 0 rfl) ?_
  refine lv_iload_n hx hb dX5_minus_6 rfl (lv_at hl 1 rfl) ?_
  refine lv_iload_n hx hb dX5_minus_7 rfl (lv_at hl 2 rfl) ?_
  refine fr_ci (fr_runV (n := 2) (rest := []) C (c_X5_isThere l D adr cs hN t1 a0 a1 _ h) hP hS (by omega) (fG_MO adr cs t1) rfl (fgV mw_32_1 mw_32_2 mw_32_3 mw_1_5 mw_32_4) rfl rfl rfl (by decide +kernel) ⟨Nat.le_of_ble_eq_true rfl, Nat.le_of_ble_eq_true rfl⟩ rfl hl.1 rfl (Nat.le_of_ble_eq_true rfl) dX5_minus_8) hS (fun r3 t2 H locs h hP hS => ?_)
  refine lv_if_ne (tgt := 16) hx hb dX5_minus_11 (by decide) (fun c9 => ?_) (fun c9 => ?_)
  · replace h := h.1 c9
    refine lv_aload_n hx hb dX5_minus_16 rfl (lv_at hl 0 rfl) ?_
    refine lv_bipush (v := 20) hx hb dX5_minus_17 (by decide) ?_
    refine lv_aload_n hx hb dX5_minus_19 rfl (lv_at hl 0 rfl) ?_
    refine fr_get (j := 19) C hP (by omega) (fG_MO adr cs t2) rfl (fun w h => List.mem_cons_of_mem _ (inl_X5 w h)) (by decide) rfl (List.mem_cons_of_mem _ mw_7_18) rfl dX5_minus_20 ?_
    refine lv_iload_n hx hb dX5_minus_23 rfl (lv_at hl 2 rfl) ?_
    refine fr_iald C hP (by omega) (fG_63 adr cs t2) h.1 dX5_minus_24 ?_
    replace h := h.2
    refine fr_cv (fr_runV (n := 2) (rest := []) C (c_X5_load l D adr cs hN t2 20 ((fga t2 63 (Int32.toNatClampNeg a1))) _ h) hP hS (by omega) (fG_MO adr cs t2) rfl (fgV mw_8_9 mw_8_10 mw_8_11 mw_1_5 mw_8_12) rfl rfl rfl (by decide +kernel) ⟨Nat.le_of_ble_eq_true rfl, Nat.le_of_ble_eq_true rfl⟩ rfl hl.1 rfl (Nat.le_of_ble_eq_true rfl) dX5_minus_25) hS (fun t4 H locs h hP hS => ?_)
    refine lv_aload_n hx hb dX5_minus_28 rfl (lv_at hl 0 rfl) ?_
    refine lv_bipush (v := 20) hx hb dX5_minus_29 (by decide) ?_
    refine lv_aload_n hx hb dX5_minus_31 rfl (lv_at hl 0 rfl) ?_
    refine fr_get (j := 1) C hP (by omega) (fG_MO adr cs t4) rfl (fun w h => List.mem_cons_of_mem _ (inl_X5 w h)) (by decide) rfl (List.mem_cons_of_mem _ mw_7_5) rfl dX5_minus_32 ?_
    refine lv_iconst (v := 1) hx hb dX5_minus_35 (by decide) ?_
    refine lv_isub hx hb dX5_minus_36 ?_
    refine fr_cv (fr_runV (n := 2) (rest := []) C (c_X5_scale l D adr cs hN t4 20 (((fgi t4 53 1) - 1)) _ h) hP hS (by omega) (fG_MO adr cs t4) rfl (fgV mw_18_22 mw_18_23 mw_19_0 mw_1_5 mw_19_1) rfl rfl rfl (by decide +kernel) ⟨Nat.le_of_ble_eq_true rfl, Nat.le_of_ble_eq_true rfl⟩ rfl hl.1 rfl (Nat.le_of_ble_eq_true rfl) dX5_minus_37) hS (fun t5 H locs h hP hS => ?_)
    refine lv_aload_n hx hb dX5_minus_40 rfl (lv_at hl 0 rfl) ?_
    refine lv_aload_n hx hb dX5_minus_41 rfl (lv_at hl 0 rfl) ?_
    refine fr_get (j := 18) C hP (by omega) (fG_MO adr cs t5) rfl (fun w h => List.mem_cons_of_mem _ (inl_X5 w h)) (by decide) rfl (List.mem_cons_of_mem _ mw_7_17) rfl dX5_minus_42 ?_
    refine lv_iload_n hx hb dX5_minus_45 rfl (lv_at hl 2 rfl) ?_
    refine fr_iald C hP (by omega) (fG_62 adr cs t5) h.1 dX5_minus_46 ?_
    replace h := h.2
    refine lv_aload_n hx hb dX5_minus_47 rfl (lv_at hl 0 rfl) ?_
    refine lv_bipush (v := 20) hx hb dX5_minus_48 (by decide) ?_
    refine fr_ci (fr_runV (n := 1) (rest := [.int ((fga t5 62 (Int32.toNatClampNeg a1))), .ref (adr 53)]) C (c_X5_number l D adr cs hN t5 20 _ h) hP hS (by omega) (fG_MO adr cs t5) rfl (fgV mw_10_1 mw_10_2 mw_10_3 mw_1_5 mw_10_4) rfl rfl rfl (by decide +kernel) ⟨Nat.le_of_ble_eq_true rfl, Nat.le_of_ble_eq_true rfl⟩ rfl hl.1 rfl (Nat.le_of_ble_eq_true rfl) dX5_minus_50) hS (fun r7 t6 H locs h hP hS => ?_)
    refine fr_ci (fr_runV (n := 2) (rest := []) C (c_X5_find l D adr cs hN t6 ((fga t5 62 (Int32.toNatClampNeg a1))) r7 _ h) hP hS (by omega) (fG_MO adr cs t6) rfl (fgV mw_32_9 mw_32_10 mw_32_11 mw_1_5 mw_32_12) rfl rfl rfl (by decide +kernel) ⟨Nat.le_of_ble_eq_true rfl, Nat.le_of_ble_eq_true rfl⟩ rfl hl.1 rfl (Nat.le_of_ble_eq_true rfl) dX5_minus_53) hS (fun r9 t8 H locs h hP hS => ?_)
    exact fr_iret C hP hS h dX5_minus_56
  · replace h := h.2 c9
    refine lv_iconst (v := (-1)) hx hb dX5_minus_14 (by decide) ?_
    exact fr_iret C hP hS h dX5_minus_15

/-! X5.order -/
abbrev wm_X5_order : List Cond := Cond.code yX5_order cX5_order 5 (some .int) :: wsL_law
def q_X5_order_21 (post : Int32 → fcS → Prop) : Nat → Int32 → Int32 → Int32 → Int32 → fcS → Prop
  | 0, _, _, _, _, _ => False
  | n + 1, v1, v2, v3, v4, t => (v4 = 0 → (post v3 t)) ∧ (¬ v4 = 0 → (q_X5_addOf t v1 v4 v2 (fun (r5 : Int32) (t4 : fcS) => ∀ x6 : Int32, x6 = v3 + 1 → (q_X5_order_21 post n v1 v2 x6 r5 t4))))
def q_X5_order (t : fcS) (a0 : Int32) (a1 : Int32) (post : Int32 → fcS → Prop) : Prop := ∀ t1 : fcS, t1 = fsi t 53 0 0 → (q_X5_isThere t1 a0 a1 (fun (r3 : Int32) (t2 : fcS) => (¬ r3 = 0 → (∃ n0, q_X5_order_21 post n0 a0 a1 1 a1 t2)) ∧ (r3 = 0 → (post ((-1)) t2))))
set_option maxHeartbeats 4000000 in
set_option maxRecDepth 100000 in
theorem k_X5_order_21 {D : va_G} {adr : Nat → Nat} {cs : Nat → ClassId} {N : Nat} (hN : 67 ≤ N) {p : Program} {l : Launch} {e : Env} {s : State} {m : MethodId} {args : Array Value} {below : List Frame} {meth : Method} {c : Code} (C : fCx D adr cs N p s m args meth c cX5_order 5 (some .int) RX5 wm_X5_order) {post : Int32 → fcS → Prop} : ∀ (n : Nat) (v1 : Int32) (v2 : Int32) (v3 : Int32) (v4 : Int32) (t : fcS) (H : Heap) (locs : List Loc) (ls : Array Slot), q_X5_order_21 post n v1 v2 v3 v4 t → va_P D vwCl (fwl adr N (fG adr cs t)) H → va_S (faN adr N) s.heap H locs → lv_has ls 5 [(0, .ref (adr 53)), (1, .int v1), (2, .int v2), (3, .int v3), (4, .int v4)] → W p l e ({ frames := 4, cells := 0, slots := 0, locals := 101 } : Room) s m args below meth c H locs 0 0 (MQ below (fQi D adr cs N post) args s 0 0 (faN adr N)) (F0 m 21 ls []) := by
  have hx := C.1.1
  have hb := C.1.2.1
  intro n
  induction n with
  | zero => intro v1 v2 v3 v4 t H locs ls h; exact False.elim h
  | succ n ih =>
    intro v1 v2 v3 v4 t H locs ls h hP hS hl
    unfold q_X5_order_21 at h
    refine lv_iload hx hb dX5_order_21 (lv_at hl 4 rfl) ?_
    refine lv_if_eq (tgt := 42) hx hb dX5_order_23 (by decide) (fun c9 => ?_) (fun c9 => ?_)
    · replace h := h.1 c9
      refine lv_iload_n hx hb dX5_order_42 rfl (lv_at hl 3 rfl) ?_
      exact fr_iret C hP hS h dX5_order_43
    · replace h := h.2 c9
      refine lv_aload_n hx hb dX5_order_26 rfl (lv_at hl 0 rfl) ?_
      refine lv_iload_n hx hb dX5_order_27 rfl (lv_at hl 1 rfl) ?_
      refine lv_iload hx hb dX5_order_28 (lv_at hl 4 rfl) ?_
      refine lv_iload_n hx hb dX5_order_30 rfl (lv_at hl 2 rfl) ?_
      refine fr_ci (fr_runV (n := 3) (rest := []) C (c_X5_addOf l D adr cs hN t v1 v4 v2 _ h) hP hS (by omega) (fG_MO adr cs t) rfl (fgV mw_32_5 mw_32_6 mw_32_7 mw_1_5 mw_32_8) rfl rfl rfl (by decide +kernel) ⟨Nat.le_of_ble_eq_true rfl, Nat.le_of_ble_eq_true rfl⟩ rfl hl.1 rfl (Nat.le_of_ble_eq_true rfl) dX5_order_31) hS (fun r5 t4 H locs h hP hS => ?_)
      refine lv_istore (lv' := [(4, .int r5), (0, .ref (adr 53)), (1, .int v1), (2, .int v2), (3, .int v3)]) hx hb dX5_order_34 hl (by decide) rfl (fun ls hl => ?_)
      obtain ⟨x6, ex6⟩ : ∃ y : Int32, y = v3 + 1 := ⟨_, rfl⟩
      replace h := h x6 ex6
      refine lv_iinc (v := x6) (lv' := [(3, .int x6), (4, .int r5), (0, .ref (adr 53)), (1, .int v1), (2, .int v2)]) hx hb dX5_order_36 hl (k := 4) rfl (by rw [ex6]; rfl) (by decide) rfl (fun ls hl => ?_)
      refine lv_goto (tgt := 21) hx hb dX5_order_39 (by decide) ?_
      exact ih v1 v2 x6 r5 t4 _ _ _ h hP hS (lv_sub hl [2, 3, 4, 0, 1] rfl)

set_option maxHeartbeats 4000000 in
set_option maxRecDepth 100000 in
theorem c_X5_order (l : Launch) (D : va_G) (adr : Nat → Nat) (cs : Nat → ClassId) {N : Nat} (hN : 67 ≤ N) (t : fcS) (a0 : Int32) (a1 : Int32) (post : Int32 → fcS → Prop) (h : q_X5_order t a0 a1 post) : Met l yX5_order wm_X5_order ({ frames := 4, cells := 0, slots := 0, locals := 101 } : Room) (fcPre D adr cs N t [.ref (adr 53), .int a0, .int a1]) (fQi D adr cs N post) 0 0 (faN adr N) := by
  refine f_enter (cc := cX5_order) (nL := 5) (ret := some .int) (lv := [(0, .ref (adr 53)), (1, .int a0), (2, .int a1)]) (own := RX5) (by decide) rfl (Nat.le_of_ble_eq_true rfl) rfl rfl ?_
  intro p e s m below meth c ls C hP hS hl
  have hx := C.1.1
  have hb := C.1.2.1
  unfold q_X5_order at h
  refine lv_aload_n hx hb dX5_order_0 rfl (lv_at hl 0 rfl) ?_
  refine lv_iconst (v := 0) hx hb dX5_order_1 (by decide) ?_
  refine fr_put C (fsi t 53 0 0) (j := 0) (ty := .int) hP hS (by omega) (fG_MO adr cs t) rfl (fun w h => List.mem_cons_of_mem _ (inl_X5 w h)) tyX5_ok nmX5 (by decide) rfl (List.mem_cons_of_mem _ mw_10_14) rfl (by decide +kernel) rfl rfl (Nat.le_of_ble_eq_true rfl) (fS_MO_0 adr cs t 0) (fG_fsi_ne adr cs t 53 0 0) dX5_order_2 (fun H locs hP hS => ?_)
  obtain ⟨t1, et1⟩ : ∃ y : fcS, y = fsi t 53 0 0 := ⟨_, rfl⟩
  rw [← et1] at hP
  replace h := h t1 et1
  refine lv_aload_n hx hb dX5_order_5 rfl (lv_at hl 0 rfl) ?_
  refine lv_iload_n hx hb dX5_order_6 rfl (lv_at hl 1 rfl) ?_
  refine lv_iload_n hx hb dX5_order_7 rfl (lv_at hl 2 rfl) ?_
  refine fr_ci (fr_runV (n := 2) (rest := []) C (c_X5_isThere l D adr cs hN t1 a0 a1 _ h) hP hS (by omega) (fG_MO adr cs t1) rfl (fgV mw_32_1 mw_32_2 mw_32_3 mw_1_5 mw_32_4) rfl rfl rfl (by decide +kernel) ⟨Nat.le_of_ble_eq_true rfl, Nat.le_of_ble_eq_true rfl⟩ rfl hl.1 rfl (Nat.le_of_ble_eq_true rfl) dX5_order_8) hS (fun r3 t2 H locs h hP hS => ?_)
  refine lv_if_ne (tgt := 16) hx hb dX5_order_11 (by decide) (fun c9 => ?_) (fun c9 => ?_)
  · replace h := h.1 c9
    refine lv_iconst (v := 1) hx hb dX5_order_16 (by decide) ?_
    refine lv_istore_n (lv' := [(3, .int 1), (0, .ref (adr 53)), (1, .int a0), (2, .int a1)]) hx hb dX5_order_17 rfl hl (by decide) rfl (fun ls hl => ?_)
    refine lv_iload_n hx hb dX5_order_18 rfl (lv_at hl 3 rfl) ?_
    refine lv_istore (lv' := [(4, .int a1), (3, .int 1), (0, .ref (adr 53)), (1, .int a0), (2, .int a1)]) hx hb dX5_order_19 hl (by decide) rfl (fun ls hl => ?_)
    obtain ⟨n9, h⟩ := h
    exact k_X5_order_21 hN C n9 a0 a1 1 a1 t2 _ _ _ h hP hS (lv_sub hl [2, 3, 4, 1, 0] rfl)
  · replace h := h.2 c9
    refine lv_iconst (v := (-1)) hx hb dX5_order_14 (by decide) ?_
    exact fr_iret C hP hS h dX5_order_15

/-! X5.told -/
abbrev wm_X5_told : List Cond := Cond.code yX5_told cX5_told 2 (some .int) :: wsL_law
def q_X5_told (t : fcS) (a0 : Int32) (post : Int32 → fcS → Prop) : Prop := ∀ t1 : fcS, t1 = fsi t 53 0 0 → ((¬ a0 = 0 → ((¬ a0 = 1 → ((¬ a0 = 2 → ((¬ a0 = 3 → (post ((-1)) t1)) ∧ (a0 = 3 → (post ((fgi t1 53 5)) t1)))) ∧ (a0 = 2 → (post ((fgi t1 53 6)) t1)))) ∧ (a0 = 1 → (post ((fgi t1 53 2)) t1)))) ∧ (a0 = 0 → (post ((fgi t1 53 1)) t1)))
set_option maxHeartbeats 4000000 in
set_option maxRecDepth 100000 in
theorem c_X5_told (l : Launch) (D : va_G) (adr : Nat → Nat) (cs : Nat → ClassId) {N : Nat} (hN : 67 ≤ N) (t : fcS) (a0 : Int32) (post : Int32 → fcS → Prop) (h : q_X5_told t a0 post) : Met l yX5_told wm_X5_told ({ frames := 0, cells := 0, slots := 0, locals := 0 } : Room) (fcPre D adr cs N t [.ref (adr 53), .int a0]) (fQi D adr cs N post) 0 0 (faN adr N) := by
  refine f_enter (cc := cX5_told) (nL := 2) (ret := some .int) (lv := [(0, .ref (adr 53)), (1, .int a0)]) (own := RX5) (by decide) rfl (Nat.le_of_ble_eq_true rfl) rfl rfl ?_
  intro p e s m below meth c ls C hP hS hl
  have hx := C.1.1
  have hb := C.1.2.1
  unfold q_X5_told at h
  refine lv_aload_n hx hb dX5_told_0 rfl (lv_at hl 0 rfl) ?_
  refine lv_iconst (v := 0) hx hb dX5_told_1 (by decide) ?_
  refine fr_put C (fsi t 53 0 0) (j := 0) (ty := .int) hP hS (by omega) (fG_MO adr cs t) rfl (fun w h => List.mem_cons_of_mem _ (inl_X5 w h)) tyX5_ok nmX5 (by decide) rfl (List.mem_cons_of_mem _ mw_10_14) rfl (by decide +kernel) rfl rfl (Nat.le_of_ble_eq_true rfl) (fS_MO_0 adr cs t 0) (fG_fsi_ne adr cs t 53 0 0) dX5_told_2 (fun H locs hP hS => ?_)
  obtain ⟨t1, et1⟩ : ∃ y : fcS, y = fsi t 53 0 0 := ⟨_, rfl⟩
  rw [← et1] at hP
  replace h := h t1 et1
  refine lv_iload_n hx hb dX5_told_5 rfl (lv_at hl 1 rfl) ?_
  refine lv_if_ne (tgt := 16) hx hb dX5_told_6 (by decide) (fun c9 => ?_) (fun c9 => ?_)
  · replace h := h.1 c9
    refine lv_iload_n hx hb dX5_told_16 rfl (lv_at hl 1 rfl) ?_
    refine lv_iconst (v := 1) hx hb dX5_told_17 (by decide) ?_
    refine lv_icmp_ne (tgt := 28) hx hb dX5_told_18 (by decide) (fun c9 => ?_) (fun c9 => ?_)
    · replace h := h.1 c9
      refine lv_iload_n hx hb dX5_told_28 rfl (lv_at hl 1 rfl) ?_
      refine lv_iconst (v := 2) hx hb dX5_told_29 (by decide) ?_
      refine lv_icmp_ne (tgt := 40) hx hb dX5_told_30 (by decide) (fun c9 => ?_) (fun c9 => ?_)
      · replace h := h.1 c9
        refine lv_iload_n hx hb dX5_told_40 rfl (lv_at hl 1 rfl) ?_
        refine lv_iconst (v := 3) hx hb dX5_told_41 (by decide) ?_
        refine lv_icmp_ne (tgt := 52) hx hb dX5_told_42 (by decide) (fun c9 => ?_) (fun c9 => ?_)
        · replace h := h.1 c9
          refine lv_iconst (v := (-1)) hx hb dX5_told_52 (by decide) ?_
          exact fr_iret C hP hS h dX5_told_53
        · replace h := h.2 c9
          refine lv_aload_n hx hb dX5_told_45 rfl (lv_at hl 0 rfl) ?_
          refine fr_get (j := 5) C hP (by omega) (fG_MO adr cs t1) rfl (fun w h => List.mem_cons_of_mem _ (inl_X5 w h)) (by decide) rfl (List.mem_cons_of_mem _ mw_8_4) rfl dX5_told_46 ?_
          refine lv_goto (tgt := 53) hx hb dX5_told_49 (by decide) ?_
          exact fr_iret C hP hS h dX5_told_53
      · replace h := h.2 c9
        refine lv_aload_n hx hb dX5_told_33 rfl (lv_at hl 0 rfl) ?_
        refine fr_get (j := 6) C hP (by omega) (fG_MO adr cs t1) rfl (fun w h => List.mem_cons_of_mem _ (inl_X5 w h)) (by decide) rfl (List.mem_cons_of_mem _ mw_8_2) rfl dX5_told_34 ?_
        refine lv_goto (tgt := 53) hx hb dX5_told_37 (by decide) ?_
        exact fr_iret C hP hS h dX5_told_53
    · replace h := h.2 c9
      refine lv_aload_n hx hb dX5_told_21 rfl (lv_at hl 0 rfl) ?_
      refine fr_get (j := 2) C hP (by omega) (fG_MO adr cs t1) rfl (fun w h => List.mem_cons_of_mem _ (inl_X5 w h)) (by decide) rfl (List.mem_cons_of_mem _ mw_7_6) rfl dX5_told_22 ?_
      refine lv_goto (tgt := 53) hx hb dX5_told_25 (by decide) ?_
      exact fr_iret C hP hS h dX5_told_53
  · replace h := h.2 c9
    refine lv_aload_n hx hb dX5_told_9 rfl (lv_at hl 0 rfl) ?_
    refine fr_get (j := 1) C hP (by omega) (fG_MO adr cs t1) rfl (fun w h => List.mem_cons_of_mem _ (inl_X5 w h)) (by decide) rfl (List.mem_cons_of_mem _ mw_7_5) rfl dX5_told_10 ?_
    refine lv_goto (tgt := 53) hx hb dX5_told_13 (by decide) ?_
    exact fr_iret C hP hS h dX5_told_53

/-! X5.traced -/
abbrev wm_X5_traced : List Cond := Cond.code yX5_traced cX5_traced 1 (some .long) :: wsL_law
def q_X5_traced (t : fcS) (post : Int64 → fcS → Prop) : Prop := ∀ t1 : fcS, t1 = fsi t 53 0 0 → (post ((fgj t1 53 12)) t1)
set_option maxHeartbeats 4000000 in
set_option maxRecDepth 100000 in
theorem c_X5_traced (l : Launch) (D : va_G) (adr : Nat → Nat) (cs : Nat → ClassId) {N : Nat} (hN : 67 ≤ N) (t : fcS)  (post : Int64 → fcS → Prop) (h : q_X5_traced t  post) : Met l yX5_traced wm_X5_traced ({ frames := 0, cells := 0, slots := 0, locals := 0 } : Room) (fcPre D adr cs N t [.ref (adr 53)]) (fQl D adr cs N post) 0 0 (faN adr N) := by
  refine f_enter (cc := cX5_traced) (nL := 1) (ret := some .long) (lv := [(0, .ref (adr 53))]) (own := RX5) (by decide) rfl (Nat.le_of_ble_eq_true rfl) rfl rfl ?_
  intro p e s m below meth c ls C hP hS hl
  have hx := C.1.1
  have hb := C.1.2.1
  unfold q_X5_traced at h
  refine lv_aload_n hx hb dX5_traced_0 rfl (lv_at hl 0 rfl) ?_
  refine lv_iconst (v := 0) hx hb dX5_traced_1 (by decide) ?_
  refine fr_put C (fsi t 53 0 0) (j := 0) (ty := .int) hP hS (by omega) (fG_MO adr cs t) rfl (fun w h => List.mem_cons_of_mem _ (inl_X5 w h)) tyX5_ok nmX5 (by decide) rfl (List.mem_cons_of_mem _ mw_10_14) rfl (by decide +kernel) rfl rfl (Nat.le_of_ble_eq_true rfl) (fS_MO_0 adr cs t 0) (fG_fsi_ne adr cs t 53 0 0) dX5_traced_2 (fun H locs hP hS => ?_)
  obtain ⟨t1, et1⟩ : ∃ y : fcS, y = fsi t 53 0 0 := ⟨_, rfl⟩
  rw [← et1] at hP
  replace h := h t1 et1
  refine lv_aload_n hx hb dX5_traced_5 rfl (lv_at hl 0 rfl) ?_
  refine fr_get (j := 12) C hP (by omega) (fG_MO adr cs t1) rfl (fun w h => List.mem_cons_of_mem _ (inl_X5 w h)) (by decide) rfl (List.mem_cons_of_mem _ mw_21_9) rfl dX5_traced_6 ?_
  exact fr_lret C hP hS h dX5_traced_9

