/-! X5.curve -/
abbrev wm_X5_curve : List Cond := Cond.code yX5_curve cX5_curve 6 (some .int) :: wsL_law
def q_X5_curve_247 (post : Int32 → fcS → Prop) : Nat → Int32 → Int32 → fcS → Prop
  | 0, _, _, _ => False
  | n + 1, v4, v5, t => (16 ≤ v5 → (∀ t14 : fcS, t14 = fsi t 53 6 (((fgi t 53 6) + 1)) → (post v4 t14))) ∧ (¬ 16 ≤ v5 → ((vp_in ((160 + v5)) 640) ∧ ((vp_in (((16 * v4) + v5)) 128) ∧ (∀ t15 : fcS, t15 = fsa t 59 (Int32.toNatClampNeg (((16 * v4) + v5))) ((fga t 60 (Int32.toNatClampNeg ((160 + v5))))) → (∀ x16 : Int32, x16 = v5 + 1 → (q_X5_curve_247 post n v4 x16 t15))))))
def q_X5_curve_230 (post : Int32 → fcS → Prop) (v1 : Int32) (v4 : Int32) (t : fcS) : Prop := (v1 ≤ 0 → (∃ n0, q_X5_curve_247 post n0 v4 0 t)) ∧ (¬ v1 ≤ 0 → (q_X5_scale t 10 ((fgi t 53 5)) (fun (t17 : fcS) => ∃ n0, q_X5_curve_247 post n0 v4 0 t17)))
def q_X5_curve_160 (post : Int32 → fcS → Prop) : Nat → Int32 → Int32 → Int32 → fcS → Prop
  | 0, _, _, _, _ => False
  | n + 1, v1, v4, v5, t => (v5 < 0 → (q_X5_copy t 10 11 (fun (t20 : fcS) => q_X5_curve_230 post v1 v4 t20))) ∧ (¬ v5 < 0 → (q_X5_multiply t 13 11 12 (fun (t21 : fcS) => q_X5_copy t21 11 13 (fun (t22 : fcS) => (vp_in 176 640) ∧ ((vp_in ((160 + v5)) 640) ∧ ((¬ ((fgi t22 53 1) : Int32) = 0) ∧ ((vp_in 176 640) ∧ (∀ t23 : fcS, t23 = fsa t22 60 (Int32.toNatClampNeg 176) ((irm (((fga t22 60 (Int32.toNatClampNeg 176)) + (fga t22 60 (Int32.toNatClampNeg ((160 + v5)))))) ((fgi t22 53 1)))) → (∀ x24 : Int32, x24 = v5 + (-1) → (q_X5_curve_160 post n v1 v4 x24 t23))))))))))
def q_X5_curve_125 (post : Int32 → fcS → Prop) (v1 : Int32) (v2 : Int32) (v3 : Int32) (v4 : Int32) (vs0 : Int32) (vs1 : Int32) (t : fcS) : Prop := (vp_in vs1 8) ∧ (∀ t12 : fcS, t12 = fsa t 58 (Int32.toNatClampNeg vs1) vs0 → (q_X5_load t12 10 v2 (fun (t13 : fcS) => (¬ v1 = 2 → (q_X5_curve_230 post v1 v4 t13)) ∧ (v1 = 2 → (q_X5_clear t13 11 (fun (t18 : fcS) => q_X5_load t18 12 (((fgi t18 53 1) + v3)) (fun (t19 : fcS) => ∃ n0, q_X5_curve_160 post n0 v1 v4 6 t19)))))))
def q_X5_curve_48 (post : Int32 → fcS → Prop) (v1 : Int32) (v2 : Int32) (v3 : Int32) (t : fcS) : Prop := ∀ t6 : fcS, t6 = fsi t 53 11 ((-9)) → (q_X5_knotOf t6 v2 (fun (r8 : Int32) (t7 : fcS) => (r8 ≤ 0 → ((¬ (fgi t7 53 6) = 8 → (∀ x9 : Int32, x9 = (fgi t7 53 6) → ((vp_in x9 8) ∧ (∀ t10 : fcS, t10 = fsa t7 56 (Int32.toNatClampNeg x9) v1 → ((vp_in x9 8) ∧ (∀ t11 : fcS, t11 = fsa t10 57 (Int32.toNatClampNeg x9) v2 → ((¬ v1 = 2 → (q_X5_curve_125 post v1 v2 v3 x9 0 x9 t11)) ∧ (v1 = 2 → (q_X5_curve_125 post v1 v2 v3 x9 v3 x9 t11))))))))) ∧ ((fgi t7 53 6) = 8 → (post ((-3)) t7)))) ∧ (¬ r8 ≤ 0 → (q_X5_number t7 12 (fun (r26 : Int32) (t25 : fcS) => ∀ t27 : fcS, t27 = fsi t25 53 11 r26 → (post ((-2)) t27))))))
def q_X5_curve (t : fcS) (a0 : Int32) (a1 : Int32) (a2 : Int32) (post : Int32 → fcS → Prop) : Prop := ∀ t1 : fcS, t1 = fsi t 53 0 0 → (q_X5_in t1 ((Int32.toInt64 a0)) 0 2 (fun (r3 : Int32) (t2 : fcS) => (r3 = 0 → (post ((-1)) t2)) ∧ (¬ r3 = 0 → (q_X5_isShaped t2 a1 (fun (r5 : Int32) (t4 : fcS) => (r5 = 0 → (post ((-1)) t4)) ∧ (¬ r5 = 0 → ((¬ a0 = 2 → (q_X5_curve_48 post a0 a1 a2 t4)) ∧ (a0 = 2 → (q_X5_in t4 ((Int32.toInt64 a2)) 0 ((Int32.toInt64 (((fgi t4 53 1) - 1)))) (fun (r29 : Int32) (t28 : fcS) => (¬ r29 = 0 → (q_X5_curve_48 post a0 a1 a2 t28)) ∧ (r29 = 0 → (post ((-1)) t28))))))))))))
set_option maxHeartbeats 4000000 in
set_option maxRecDepth 100000 in
theorem k_X5_curve_247 {D : va_G} {adr : Nat → Nat} {cs : Nat → ClassId} {N : Nat} (hN : 67 ≤ N) {p : Program} {l : Launch} {e : Env} {s : State} {m : MethodId} {args : Array Value} {below : List Frame} {meth : Method} {c : Code} (C : fCx D adr cs N p s m args meth c cX5_curve 6 (some .int) RX5 wm_X5_curve) {post : Int32 → fcS → Prop} : ∀ (n : Nat) (v4 : Int32) (v5 : Int32) (t : fcS) (H : Heap) (locs : List Loc) (ls : Array Slot), q_X5_curve_247 post n v4 v5 t → va_P D vwCl (fwl adr N (fG adr cs t)) H → va_S (faN adr N) s.heap H locs → lv_has ls 6 [(0, .ref (adr 53)), (4, .int v4), (5, .int v5)] → W p l e ({ frames := 4, cells := 0, slots := 0, locals := 100 } : Room) s m args below meth c H locs 0 0 (MQ below (fQi D adr cs N post) args s 0 0 (faN adr N)) (F0 m 247 ls []) := by
  have hx := C.1.1
  have hb := C.1.2.1
  intro n
  induction n with
  | zero => intro v4 v5 t H locs ls h; exact False.elim h
  | succ n ih =>
    intro v4 v5 t H locs ls h hP hS hl
    unfold q_X5_curve_247 at h
    refine lv_iload hx hb dX5_curve_247 (lv_at hl 2 rfl) ?_
    refine lv_bipush (v := 16) hx hb dX5_curve_249 (by decide) ?_
    refine lv_icmp_ge (tgt := 284) hx hb dX5_curve_251 (by decide) (fun c9 => ?_) (fun c9 => ?_)
    · replace h := h.1 c9
      refine lv_aload_n hx hb dX5_curve_284 rfl (lv_at hl 0 rfl) ?_
      refine lv_dup hx hb dX5_curve_285 rfl ?_
      refine fr_get (j := 6) C hP (by omega) (fG_MO adr cs t) rfl (fun w h => List.mem_cons_of_mem _ (inl_X5 w h)) (by decide) rfl (List.mem_cons_of_mem _ mw_8_2) rfl dX5_curve_286 ?_
      refine lv_iconst (v := 1) hx hb dX5_curve_289 (by decide) ?_
      refine lv_iadd hx hb dX5_curve_290 ?_
      refine fr_put C (fsi t 53 6 (((fgi t 53 6) + 1))) (j := 6) (ty := .int) hP hS (by omega) (fG_MO adr cs t) rfl (fun w h => List.mem_cons_of_mem _ (inl_X5 w h)) tyX5_ok nmX5 (by decide) rfl (List.mem_cons_of_mem _ mw_8_2) rfl (by decide +kernel) rfl rfl (Nat.le_of_ble_eq_true rfl) (fS_MO_6 adr cs t (((fgi t 53 6) + 1))) (fG_fsi_ne adr cs t 53 6 (((fgi t 53 6) + 1))) dX5_curve_291 (fun H locs hP hS => ?_)
      obtain ⟨t14, et14⟩ : ∃ y : fcS, y = fsi t 53 6 (((fgi t 53 6) + 1)) := ⟨_, rfl⟩
      rw [← et14] at hP
      replace h := h t14 et14
      refine lv_iload hx hb dX5_curve_294 (lv_at hl 1 rfl) ?_
      exact fr_iret C hP hS h dX5_curve_296
    · replace h := h.2 c9
      refine lv_aload_n hx hb dX5_curve_254 rfl (lv_at hl 0 rfl) ?_
      refine fr_get (j := 10) C hP (by omega) (fG_MO adr cs t) rfl (fun w h => List.mem_cons_of_mem _ (inl_X5 w h)) (by decide) rfl (List.mem_cons_of_mem _ mw_7_12) rfl dX5_curve_255 ?_
      refine lv_bipush (v := 16) hx hb dX5_curve_258 (by decide) ?_
      refine lv_iload hx hb dX5_curve_260 (lv_at hl 1 rfl) ?_
      refine lv_imul hx hb dX5_curve_262 ?_
      refine lv_iload hx hb dX5_curve_263 (lv_at hl 2 rfl) ?_
      refine lv_iadd hx hb dX5_curve_265 ?_
      refine lv_aload_n hx hb dX5_curve_266 rfl (lv_at hl 0 rfl) ?_
      refine fr_get (j := 13) C hP (by omega) (fG_MO adr cs t) rfl (fun w h => List.mem_cons_of_mem _ (inl_X5 w h)) (by decide) rfl (List.mem_cons_of_mem _ mw_7_14) rfl dX5_curve_267 ?_
      refine lv_sipush (v := 160) hx hb dX5_curve_270 (by decide) ?_
      refine lv_iload hx hb dX5_curve_273 (lv_at hl 2 rfl) ?_
      refine lv_iadd hx hb dX5_curve_275 ?_
      refine fr_iald C hP (by omega) (fG_60 adr cs t) h.1 dX5_curve_276 ?_
      replace h := h.2
      refine fr_iast C hP hS (by omega) (fun u => (fG_59 adr cs u)) h.1 dX5_curve_277 (fun H locs hP hS => ?_)
      obtain ⟨t15, et15⟩ : ∃ y : fcS, y = fsa t 59 (Int32.toNatClampNeg (((16 * v4) + v5))) ((fga t 60 (Int32.toNatClampNeg ((160 + v5))))) := ⟨_, rfl⟩
      rw [← et15] at hP
      replace h := h.2 t15 et15
      obtain ⟨x16, ex16⟩ : ∃ y : Int32, y = v5 + 1 := ⟨_, rfl⟩
      replace h := h x16 ex16
      refine lv_iinc (v := x16) (lv' := [(5, .int x16), (0, .ref (adr 53)), (4, .int v4)]) hx hb dX5_curve_278 hl (k := 2) rfl (by rw [ex16]; rfl) (by decide) rfl (fun ls hl => ?_)
      refine lv_goto (tgt := 247) hx hb dX5_curve_281 (by decide) ?_
      exact ih v4 x16 t15 _ _ _ h hP hS (lv_sub hl [1, 2, 0] rfl)

set_option maxHeartbeats 4000000 in
set_option maxRecDepth 100000 in
theorem k_X5_curve_230 {D : va_G} {adr : Nat → Nat} {cs : Nat → ClassId} {N : Nat} (hN : 67 ≤ N) {p : Program} {l : Launch} {e : Env} {s : State} {m : MethodId} {args : Array Value} {below : List Frame} {meth : Method} {c : Code} (C : fCx D adr cs N p s m args meth c cX5_curve 6 (some .int) RX5 wm_X5_curve) {post : Int32 → fcS → Prop} : ∀ (v1 : Int32) (v4 : Int32) (t : fcS) (H : Heap) (locs : List Loc) (ls : Array Slot), q_X5_curve_230 post v1 v4 t → va_P D vwCl (fwl adr N (fG adr cs t)) H → va_S (faN adr N) s.heap H locs → lv_has ls 6 [(0, .ref (adr 53)), (1, .int v1), (4, .int v4)] → W p l e ({ frames := 4, cells := 0, slots := 0, locals := 100 } : Room) s m args below meth c H locs 0 0 (MQ below (fQi D adr cs N post) args s 0 0 (faN adr N)) (F0 m 230 ls []) := by
  have hx := C.1.1
  have hb := C.1.2.1
  intro v1 v4 t H locs ls h hP hS hl
  unfold q_X5_curve_230 at h
  refine lv_iload_n hx hb dX5_curve_230 rfl (lv_at hl 1 rfl) ?_
  refine lv_if_le (tgt := 244) hx hb dX5_curve_231 (by decide) (fun c9 => ?_) (fun c9 => ?_)
  · replace h := h.1 c9
    refine lv_iconst (v := 0) hx hb dX5_curve_244 (by decide) ?_
    refine lv_istore (lv' := [(5, .int 0), (0, .ref (adr 53)), (1, .int v1), (4, .int v4)]) hx hb dX5_curve_245 hl (by decide) rfl (fun ls hl => ?_)
    obtain ⟨n9, h⟩ := h
    exact k_X5_curve_247 hN C n9 v4 0 t _ _ _ h hP hS (lv_sub hl [1, 3, 0] rfl)
  · replace h := h.2 c9
    refine lv_aload_n hx hb dX5_curve_234 rfl (lv_at hl 0 rfl) ?_
    refine lv_bipush (v := 10) hx hb dX5_curve_235 (by decide) ?_
    refine lv_aload_n hx hb dX5_curve_237 rfl (lv_at hl 0 rfl) ?_
    refine fr_get (j := 5) C hP (by omega) (fG_MO adr cs t) rfl (fun w h => List.mem_cons_of_mem _ (inl_X5 w h)) (by decide) rfl (List.mem_cons_of_mem _ mw_8_4) rfl dX5_curve_238 ?_
    refine fr_cv (fr_runV (n := 2) (rest := []) C (c_X5_scale l D adr cs hN t 10 ((fgi t 53 5)) _ h) hP hS (by omega) (fG_MO adr cs t) rfl (fgV mw_18_22 mw_18_23 mw_19_0 mw_1_5 mw_19_1) rfl rfl rfl (by decide +kernel) ⟨Nat.le_of_ble_eq_true rfl, Nat.le_of_ble_eq_true rfl⟩ rfl hl.1 rfl (Nat.le_of_ble_eq_true rfl) dX5_curve_241) hS (fun t17 H locs h hP hS => ?_)
    refine lv_iconst (v := 0) hx hb dX5_curve_244 (by decide) ?_
    refine lv_istore (lv' := [(5, .int 0), (0, .ref (adr 53)), (1, .int v1), (4, .int v4)]) hx hb dX5_curve_245 hl (by decide) rfl (fun ls hl => ?_)
    obtain ⟨n9, h⟩ := h
    exact k_X5_curve_247 hN C n9 v4 0 t17 _ _ _ h hP hS (lv_sub hl [1, 3, 0] rfl)

set_option maxHeartbeats 4000000 in
set_option maxRecDepth 100000 in
theorem k_X5_curve_160 {D : va_G} {adr : Nat → Nat} {cs : Nat → ClassId} {N : Nat} (hN : 67 ≤ N) {p : Program} {l : Launch} {e : Env} {s : State} {m : MethodId} {args : Array Value} {below : List Frame} {meth : Method} {c : Code} (C : fCx D adr cs N p s m args meth c cX5_curve 6 (some .int) RX5 wm_X5_curve) {post : Int32 → fcS → Prop} : ∀ (n : Nat) (v1 : Int32) (v4 : Int32) (v5 : Int32) (t : fcS) (H : Heap) (locs : List Loc) (ls : Array Slot), q_X5_curve_160 post n v1 v4 v5 t → va_P D vwCl (fwl adr N (fG adr cs t)) H → va_S (faN adr N) s.heap H locs → lv_has ls 6 [(0, .ref (adr 53)), (1, .int v1), (4, .int v4), (5, .int v5)] → W p l e ({ frames := 4, cells := 0, slots := 0, locals := 100 } : Room) s m args below meth c H locs 0 0 (MQ below (fQi D adr cs N post) args s 0 0 (faN adr N)) (F0 m 160 ls []) := by
  have hx := C.1.1
  have hb := C.1.2.1
  intro n
  induction n with
  | zero => intro v1 v4 v5 t H locs ls h; exact False.elim h
  | succ n ih =>
    intro v1 v4 v5 t H locs ls h hP hS hl
    unfold q_X5_curve_160 at h
    refine lv_iload hx hb dX5_curve_160 (lv_at hl 3 rfl) ?_
    refine lv_if_lt (tgt := 222) hx hb dX5_curve_162 (by decide) (fun c9 => ?_) (fun c9 => ?_)
    · replace h := h.1 c9
      refine lv_aload_n hx hb dX5_curve_222 rfl (lv_at hl 0 rfl) ?_
      refine lv_bipush (v := 10) hx hb dX5_curve_223 (by decide) ?_
      refine lv_bipush (v := 11) hx hb dX5_curve_225 (by decide) ?_
      refine fr_cv (fr_runV (n := 2) (rest := []) C (c_X5_copy l D adr cs hN t 10 11 _ h) hP hS (by omega) (fG_MO adr cs t) rfl (fgV mw_8_21 mw_8_22 mw_8_23 mw_1_5 mw_9_0) rfl rfl rfl (by decide +kernel) ⟨Nat.le_of_ble_eq_true rfl, Nat.le_of_ble_eq_true rfl⟩ rfl hl.1 rfl (Nat.le_of_ble_eq_true rfl) dX5_curve_227) hS (fun t20 H locs h hP hS => ?_)
      exact k_X5_curve_230 hN C v1 v4 t20 _ _ _ h hP hS (lv_sub hl [0, 1, 2] rfl)
    · replace h := h.2 c9
      refine lv_aload_n hx hb dX5_curve_165 rfl (lv_at hl 0 rfl) ?_
      refine lv_bipush (v := 13) hx hb dX5_curve_166 (by decide) ?_
      refine lv_bipush (v := 11) hx hb dX5_curve_168 (by decide) ?_
      refine lv_bipush (v := 12) hx hb dX5_curve_170 (by decide) ?_
      refine fr_cv (fr_runV (n := 3) (rest := []) C (c_X5_multiply l D adr cs hN t 13 11 12 _ h) hP hS (by omega) (fG_MO adr cs t) rfl (fgV mw_9_21 mw_9_22 mw_9_23 mw_1_5 mw_10_0) rfl rfl rfl (by decide +kernel) ⟨Nat.le_of_ble_eq_true rfl, Nat.le_of_ble_eq_true rfl⟩ rfl hl.1 rfl (Nat.le_of_ble_eq_true rfl) dX5_curve_172) hS (fun t21 H locs h hP hS => ?_)
      refine lv_aload_n hx hb dX5_curve_175 rfl (lv_at hl 0 rfl) ?_
      refine lv_bipush (v := 11) hx hb dX5_curve_176 (by decide) ?_
      refine lv_bipush (v := 13) hx hb dX5_curve_178 (by decide) ?_
      refine fr_cv (fr_runV (n := 2) (rest := []) C (c_X5_copy l D adr cs hN t21 11 13 _ h) hP hS (by omega) (fG_MO adr cs t21) rfl (fgV mw_8_21 mw_8_22 mw_8_23 mw_1_5 mw_9_0) rfl rfl rfl (by decide +kernel) ⟨Nat.le_of_ble_eq_true rfl, Nat.le_of_ble_eq_true rfl⟩ rfl hl.1 rfl (Nat.le_of_ble_eq_true rfl) dX5_curve_180) hS (fun t22 H locs h hP hS => ?_)
      refine lv_aload_n hx hb dX5_curve_183 rfl (lv_at hl 0 rfl) ?_
      refine fr_get (j := 13) C hP (by omega) (fG_MO adr cs t22) rfl (fun w h => List.mem_cons_of_mem _ (inl_X5 w h)) (by decide) rfl (List.mem_cons_of_mem _ mw_7_14) rfl dX5_curve_184 ?_
      refine lv_sipush (v := 176) hx hb dX5_curve_187 (by decide) ?_
      refine lv_aload_n hx hb dX5_curve_190 rfl (lv_at hl 0 rfl) ?_
      refine fr_get (j := 13) C hP (by omega) (fG_MO adr cs t22) rfl (fun w h => List.mem_cons_of_mem _ (inl_X5 w h)) (by decide) rfl (List.mem_cons_of_mem _ mw_7_14) rfl dX5_curve_191 ?_
      refine lv_sipush (v := 176) hx hb dX5_curve_194 (by decide) ?_
      refine fr_iald C hP (by omega) (fG_60 adr cs t22) h.1 dX5_curve_197 ?_
      replace h := h.2
      refine lv_aload_n hx hb dX5_curve_198 rfl (lv_at hl 0 rfl) ?_
      refine fr_get (j := 13) C hP (by omega) (fG_MO adr cs t22) rfl (fun w h => List.mem_cons_of_mem _ (inl_X5 w h)) (by decide) rfl (List.mem_cons_of_mem _ mw_7_14) rfl dX5_curve_199 ?_
      refine lv_sipush (v := 160) hx hb dX5_curve_202 (by decide) ?_
      refine lv_iload hx hb dX5_curve_205 (lv_at hl 3 rfl) ?_
      refine lv_iadd hx hb dX5_curve_207 ?_
      refine fr_iald C hP (by omega) (fG_60 adr cs t22) h.1 dX5_curve_208 ?_
      replace h := h.2
      refine lv_iadd hx hb dX5_curve_209 ?_
      refine lv_aload_n hx hb dX5_curve_210 rfl (lv_at hl 0 rfl) ?_
      refine fr_get (j := 1) C hP (by omega) (fG_MO adr cs t22) rfl (fun w h => List.mem_cons_of_mem _ (inl_X5 w h)) (by decide) rfl (List.mem_cons_of_mem _ mw_7_5) rfl dX5_curve_211 ?_
      refine lv_irem hx hb dX5_curve_214 h.1 ?_
      replace h := h.2
      refine fr_iast C hP hS (by omega) (fun u => (fG_60 adr cs u)) h.1 dX5_curve_215 (fun H locs hP hS => ?_)
      obtain ⟨t23, et23⟩ : ∃ y : fcS, y = fsa t22 60 (Int32.toNatClampNeg 176) ((irm (((fga t22 60 (Int32.toNatClampNeg 176)) + (fga t22 60 (Int32.toNatClampNeg ((160 + v5)))))) ((fgi t22 53 1)))) := ⟨_, rfl⟩
      rw [← et23] at hP
      replace h := h.2 t23 et23
      obtain ⟨x24, ex24⟩ : ∃ y : Int32, y = v5 + (-1) := ⟨_, rfl⟩
      replace h := h x24 ex24
      refine lv_iinc (v := x24) (lv' := [(5, .int x24), (0, .ref (adr 53)), (1, .int v1), (4, .int v4)]) hx hb dX5_curve_216 hl (k := 3) rfl (by rw [ex24]; rfl) (by decide) rfl (fun ls hl => ?_)
      refine lv_goto (tgt := 160) hx hb dX5_curve_219 (by decide) ?_
      exact ih v1 v4 x24 t23 _ _ _ h hP hS (lv_sub hl [1, 2, 3, 0] rfl)

set_option maxHeartbeats 4000000 in
set_option maxRecDepth 100000 in
theorem k_X5_curve_125 {D : va_G} {adr : Nat → Nat} {cs : Nat → ClassId} {N : Nat} (hN : 67 ≤ N) {p : Program} {l : Launch} {e : Env} {s : State} {m : MethodId} {args : Array Value} {below : List Frame} {meth : Method} {c : Code} (C : fCx D adr cs N p s m args meth c cX5_curve 6 (some .int) RX5 wm_X5_curve) {post : Int32 → fcS → Prop} : ∀ (v1 : Int32) (v2 : Int32) (v3 : Int32) (v4 : Int32) (vs0 : Int32) (vs1 : Int32) (t : fcS) (H : Heap) (locs : List Loc) (ls : Array Slot), q_X5_curve_125 post v1 v2 v3 v4 vs0 vs1 t → va_P D vwCl (fwl adr N (fG adr cs t)) H → va_S (faN adr N) s.heap H locs → lv_has ls 6 [(0, .ref (adr 53)), (1, .int v1), (2, .int v2), (3, .int v3), (4, .int v4)] → W p l e ({ frames := 4, cells := 0, slots := 0, locals := 100 } : Room) s m args below meth c H locs 0 0 (MQ below (fQi D adr cs N post) args s 0 0 (faN adr N)) (F0 m 125 ls [.int vs0, .int vs1, .ref (adr 58)]) := by
  have hx := C.1.1
  have hb := C.1.2.1
  intro v1 v2 v3 v4 vs0 vs1 t H locs ls h hP hS hl
  unfold q_X5_curve_125 at h
  refine fr_iast C hP hS (by omega) (fun u => (fG_58 adr cs u)) h.1 dX5_curve_125 (fun H locs hP hS => ?_)
  obtain ⟨t12, et12⟩ : ∃ y : fcS, y = fsa t 58 (Int32.toNatClampNeg vs1) vs0 := ⟨_, rfl⟩
  rw [← et12] at hP
  replace h := h.2 t12 et12
  refine lv_aload_n hx hb dX5_curve_126 rfl (lv_at hl 0 rfl) ?_
  refine lv_bipush (v := 10) hx hb dX5_curve_127 (by decide) ?_
  refine lv_iload_n hx hb dX5_curve_129 rfl (lv_at hl 2 rfl) ?_
  refine fr_cv (fr_runV (n := 2) (rest := []) C (c_X5_load l D adr cs hN t12 10 v2 _ h) hP hS (by omega) (fG_MO adr cs t12) rfl (fgV mw_8_9 mw_8_10 mw_8_11 mw_1_5 mw_8_12) rfl rfl rfl (by decide +kernel) ⟨Nat.le_of_ble_eq_true rfl, Nat.le_of_ble_eq_true rfl⟩ rfl hl.1 rfl (Nat.le_of_ble_eq_true rfl) dX5_curve_130) hS (fun t13 H locs h hP hS => ?_)
  refine lv_iload_n hx hb dX5_curve_133 rfl (lv_at hl 1 rfl) ?_
  refine lv_iconst (v := 2) hx hb dX5_curve_134 (by decide) ?_
  refine lv_icmp_ne (tgt := 230) hx hb dX5_curve_135 (by decide) (fun c9 => ?_) (fun c9 => ?_)
  · replace h := h.1 c9
    exact k_X5_curve_230 hN C v1 v4 t13 _ _ _ h hP hS (lv_sub hl [0, 1, 4] rfl)
  · replace h := h.2 c9
    refine lv_aload_n hx hb dX5_curve_138 rfl (lv_at hl 0 rfl) ?_
    refine lv_bipush (v := 11) hx hb dX5_curve_139 (by decide) ?_
    refine fr_cv (fr_runV (n := 1) (rest := []) C (c_X5_clear l D adr cs hN t13 11 _ h) hP hS (by omega) (fG_MO adr cs t13) rfl (fgV mw_8_17 mw_8_18 mw_8_19 mw_1_5 mw_8_20) rfl rfl rfl (by decide +kernel) ⟨Nat.le_of_ble_eq_true rfl, Nat.le_of_ble_eq_true rfl⟩ rfl hl.1 rfl (Nat.le_of_ble_eq_true rfl) dX5_curve_141) hS (fun t18 H locs h hP hS => ?_)
    refine lv_aload_n hx hb dX5_curve_144 rfl (lv_at hl 0 rfl) ?_
    refine lv_bipush (v := 12) hx hb dX5_curve_145 (by decide) ?_
    refine lv_aload_n hx hb dX5_curve_147 rfl (lv_at hl 0 rfl) ?_
    refine fr_get (j := 1) C hP (by omega) (fG_MO adr cs t18) rfl (fun w h => List.mem_cons_of_mem _ (inl_X5 w h)) (by decide) rfl (List.mem_cons_of_mem _ mw_7_5) rfl dX5_curve_148 ?_
    refine lv_iload_n hx hb dX5_curve_151 rfl (lv_at hl 3 rfl) ?_
    refine lv_iadd hx hb dX5_curve_152 ?_
    refine fr_cv (fr_runV (n := 2) (rest := []) C (c_X5_load l D adr cs hN t18 12 (((fgi t18 53 1) + v3)) _ h) hP hS (by omega) (fG_MO adr cs t18) rfl (fgV mw_8_9 mw_8_10 mw_8_11 mw_1_5 mw_8_12) rfl rfl rfl (by decide +kernel) ⟨Nat.le_of_ble_eq_true rfl, Nat.le_of_ble_eq_true rfl⟩ rfl hl.1 rfl (Nat.le_of_ble_eq_true rfl) dX5_curve_153) hS (fun t19 H locs h hP hS => ?_)
    refine lv_bipush (v := 6) hx hb dX5_curve_156 (by decide) ?_
    refine lv_istore (lv' := [(5, .int 6), (0, .ref (adr 53)), (1, .int v1), (2, .int v2), (3, .int v3), (4, .int v4)]) hx hb dX5_curve_158 hl (by decide) rfl (fun ls hl => ?_)
    obtain ⟨n9, h⟩ := h
    exact k_X5_curve_160 hN C n9 v1 v4 6 t19 _ _ _ h hP hS (lv_sub hl [1, 2, 5, 0] rfl)

set_option maxHeartbeats 4000000 in
set_option maxRecDepth 100000 in
theorem k_X5_curve_48 {D : va_G} {adr : Nat → Nat} {cs : Nat → ClassId} {N : Nat} (hN : 67 ≤ N) {p : Program} {l : Launch} {e : Env} {s : State} {m : MethodId} {args : Array Value} {below : List Frame} {meth : Method} {c : Code} (C : fCx D adr cs N p s m args meth c cX5_curve 6 (some .int) RX5 wm_X5_curve) {post : Int32 → fcS → Prop} : ∀ (v1 : Int32) (v2 : Int32) (v3 : Int32) (t : fcS) (H : Heap) (locs : List Loc) (ls : Array Slot), q_X5_curve_48 post v1 v2 v3 t → va_P D vwCl (fwl adr N (fG adr cs t)) H → va_S (faN adr N) s.heap H locs → lv_has ls 6 [(0, .ref (adr 53)), (1, .int v1), (2, .int v2), (3, .int v3)] → W p l e ({ frames := 4, cells := 0, slots := 0, locals := 100 } : Room) s m args below meth c H locs 0 0 (MQ below (fQi D adr cs N post) args s 0 0 (faN adr N)) (F0 m 48 ls []) := by
  have hx := C.1.1
  have hb := C.1.2.1
  intro v1 v2 v3 t H locs ls h hP hS hl
  unfold q_X5_curve_48 at h
  refine lv_aload_n hx hb dX5_curve_48 rfl (lv_at hl 0 rfl) ?_
  refine lv_bipush (v := (-9)) hx hb dX5_curve_49 (by decide) ?_
  refine fr_put C (fsi t 53 11 ((-9))) (j := 11) (ty := .int) hP hS (by omega) (fG_MO adr cs t) rfl (fun w h => List.mem_cons_of_mem _ (inl_X5 w h)) tyX5_ok nmX5 (by decide) rfl (List.mem_cons_of_mem _ mw_7_13) rfl (by decide +kernel) rfl rfl (Nat.le_of_ble_eq_true rfl) (fS_MO_11 adr cs t ((-9))) (fG_fsi_ne adr cs t 53 11 ((-9))) dX5_curve_51 (fun H locs hP hS => ?_)
  obtain ⟨t6, et6⟩ : ∃ y : fcS, y = fsi t 53 11 ((-9)) := ⟨_, rfl⟩
  rw [← et6] at hP
  replace h := h t6 et6
  refine lv_aload_n hx hb dX5_curve_54 rfl (lv_at hl 0 rfl) ?_
  refine lv_iload_n hx hb dX5_curve_55 rfl (lv_at hl 2 rfl) ?_
  refine fr_ci (fr_runV (n := 1) (rest := []) C (c_X5_knotOf l D adr cs hN t6 v2 _ h) hP hS (by omega) (fG_MO adr cs t6) rfl (fgV mw_18_10 mw_18_11 mw_18_12 mw_1_5 mw_18_13) rfl rfl rfl (by decide +kernel) ⟨Nat.le_of_ble_eq_true rfl, Nat.le_of_ble_eq_true rfl⟩ rfl hl.1 rfl (Nat.le_of_ble_eq_true rfl) dX5_curve_56) hS (fun r8 t7 H locs h hP hS => ?_)
  refine lv_if_le (tgt := 75) hx hb dX5_curve_59 (by decide) (fun c9 => ?_) (fun c9 => ?_)
  · replace h := h.1 c9
    refine lv_aload_n hx hb dX5_curve_75 rfl (lv_at hl 0 rfl) ?_
    refine fr_get (j := 6) C hP (by omega) (fG_MO adr cs t7) rfl (fun w h => List.mem_cons_of_mem _ (inl_X5 w h)) (by decide) rfl (List.mem_cons_of_mem _ mw_8_2) rfl dX5_curve_76 ?_
    refine lv_bipush (v := 8) hx hb dX5_curve_79 (by decide) ?_
    refine lv_icmp_ne (tgt := 87) hx hb dX5_curve_81 (by decide) (fun c9 => ?_) (fun c9 => ?_)
    · replace h := h.1 c9
      refine lv_aload_n hx hb dX5_curve_87 rfl (lv_at hl 0 rfl) ?_
      refine fr_get (j := 6) C hP (by omega) (fG_MO adr cs t7) rfl (fun w h => List.mem_cons_of_mem _ (inl_X5 w h)) (by decide) rfl (List.mem_cons_of_mem _ mw_8_2) rfl dX5_curve_88 ?_
      refine lv_topi (fun x9 ex9 => ?_)
      replace h := h x9 ex9
      refine lv_istore (lv' := [(4, .int x9), (0, .ref (adr 53)), (1, .int v1), (2, .int v2), (3, .int v3)]) hx hb dX5_curve_91 hl (by decide) rfl (fun ls hl => ?_)
      refine lv_aload_n hx hb dX5_curve_93 rfl (lv_at hl 1 rfl) ?_
      refine fr_get (j := 7) C hP (by omega) (fG_MO adr cs t7) rfl (fun w h => List.mem_cons_of_mem _ (inl_X5 w h)) (by decide) rfl (List.mem_cons_of_mem _ mw_7_9) rfl dX5_curve_94 ?_
      refine lv_iload hx hb dX5_curve_97 (lv_at hl 0 rfl) ?_
      refine lv_iload_n hx hb dX5_curve_99 rfl (lv_at hl 2 rfl) ?_
      refine fr_iast C hP hS (by omega) (fun u => (fG_56 adr cs u)) h.1 dX5_curve_100 (fun H locs hP hS => ?_)
      obtain ⟨t10, et10⟩ : ∃ y : fcS, y = fsa t7 56 (Int32.toNatClampNeg x9) v1 := ⟨_, rfl⟩
      rw [← et10] at hP
      replace h := h.2 t10 et10
      refine lv_aload_n hx hb dX5_curve_101 rfl (lv_at hl 1 rfl) ?_
      refine fr_get (j := 8) C hP (by omega) (fG_MO adr cs t10) rfl (fun w h => List.mem_cons_of_mem _ (inl_X5 w h)) (by decide) rfl (List.mem_cons_of_mem _ mw_7_10) rfl dX5_curve_102 ?_
      refine lv_iload hx hb dX5_curve_105 (lv_at hl 0 rfl) ?_
      refine lv_iload_n hx hb dX5_curve_107 rfl (lv_at hl 3 rfl) ?_
      refine fr_iast C hP hS (by omega) (fun u => (fG_57 adr cs u)) h.1 dX5_curve_108 (fun H locs hP hS => ?_)
      obtain ⟨t11, et11⟩ : ∃ y : fcS, y = fsa t10 57 (Int32.toNatClampNeg x9) v2 := ⟨_, rfl⟩
      rw [← et11] at hP
      replace h := h.2 t11 et11
      refine lv_aload_n hx hb dX5_curve_109 rfl (lv_at hl 1 rfl) ?_
      refine fr_get (j := 9) C hP (by omega) (fG_MO adr cs t11) rfl (fun w h => List.mem_cons_of_mem _ (inl_X5 w h)) (by decide) rfl (List.mem_cons_of_mem _ mw_7_11) rfl dX5_curve_110 ?_
      refine lv_iload hx hb dX5_curve_113 (lv_at hl 0 rfl) ?_
      refine lv_iload_n hx hb dX5_curve_115 rfl (lv_at hl 2 rfl) ?_
      refine lv_iconst (v := 2) hx hb dX5_curve_116 (by decide) ?_
      refine lv_icmp_ne (tgt := 124) hx hb dX5_curve_117 (by decide) (fun c9 => ?_) (fun c9 => ?_)
      · replace h := h.1 c9
        refine lv_iconst (v := 0) hx hb dX5_curve_124 (by decide) ?_
        exact k_X5_curve_125 hN C v1 v2 v3 x9 0 x9 t11 _ _ _ h hP hS (lv_sub hl [1, 2, 3, 4, 0] rfl)
      · replace h := h.2 c9
        refine lv_iload_n hx hb dX5_curve_120 rfl (lv_at hl 4 rfl) ?_
        refine lv_goto (tgt := 125) hx hb dX5_curve_121 (by decide) ?_
        exact k_X5_curve_125 hN C v1 v2 v3 x9 v3 x9 t11 _ _ _ h hP hS (lv_sub hl [1, 2, 3, 4, 0] rfl)
    · replace h := h.2 c9
      refine lv_bipush (v := (-3)) hx hb dX5_curve_84 (by decide) ?_
      exact fr_iret C hP hS h dX5_curve_86
  · replace h := h.2 c9
    refine lv_aload_n hx hb dX5_curve_62 rfl (lv_at hl 0 rfl) ?_
    refine lv_aload_n hx hb dX5_curve_63 rfl (lv_at hl 0 rfl) ?_
    refine lv_bipush (v := 12) hx hb dX5_curve_64 (by decide) ?_
    refine fr_ci (fr_runV (n := 1) (rest := [.ref (adr 53)]) C (c_X5_number l D adr cs hN t7 12 _ h) hP hS (by omega) (fG_MO adr cs t7) rfl (fgV mw_10_1 mw_10_2 mw_10_3 mw_1_5 mw_10_4) rfl rfl rfl (by decide +kernel) ⟨Nat.le_of_ble_eq_true rfl, Nat.le_of_ble_eq_true rfl⟩ rfl hl.1 rfl (Nat.le_of_ble_eq_true rfl) dX5_curve_66) hS (fun r26 t25 H locs h hP hS => ?_)
    refine fr_put C (fsi t25 53 11 r26) (j := 11) (ty := .int) hP hS (by omega) (fG_MO adr cs t25) rfl (fun w h => List.mem_cons_of_mem _ (inl_X5 w h)) tyX5_ok nmX5 (by decide) rfl (List.mem_cons_of_mem _ mw_7_13) rfl (by decide +kernel) rfl rfl (Nat.le_of_ble_eq_true rfl) (fS_MO_11 adr cs t25 r26) (fG_fsi_ne adr cs t25 53 11 r26) dX5_curve_69 (fun H locs hP hS => ?_)
    obtain ⟨t27, et27⟩ : ∃ y : fcS, y = fsi t25 53 11 r26 := ⟨_, rfl⟩
    rw [← et27] at hP
    replace h := h t27 et27
    refine lv_bipush (v := (-2)) hx hb dX5_curve_72 (by decide) ?_
    exact fr_iret C hP hS h dX5_curve_74

set_option maxHeartbeats 4000000 in
set_option maxRecDepth 100000 in
theorem c_X5_curve (l : Launch) (D : va_G) (adr : Nat → Nat) (cs : Nat → ClassId) {N : Nat} (hN : 67 ≤ N) (t : fcS) (a0 : Int32) (a1 : Int32) (a2 : Int32) (post : Int32 → fcS → Prop) (h : q_X5_curve t a0 a1 a2 post) : Met l yX5_curve wm_X5_curve ({ frames := 4, cells := 0, slots := 0, locals := 100 } : Room) (fcPre D adr cs N t [.ref (adr 53), .int a0, .int a1, .int a2]) (fQi D adr cs N post) 0 0 (faN adr N) := by
  refine f_enter (cc := cX5_curve) (nL := 6) (ret := some .int) (lv := [(0, .ref (adr 53)), (1, .int a0), (2, .int a1), (3, .int a2)]) (own := RX5) (by decide) rfl (Nat.le_of_ble_eq_true rfl) rfl rfl ?_
  intro p e s m below meth c ls C hP hS hl
  have hx := C.1.1
  have hb := C.1.2.1
  unfold q_X5_curve at h
  refine lv_aload_n hx hb dX5_curve_0 rfl (lv_at hl 0 rfl) ?_
  refine lv_iconst (v := 0) hx hb dX5_curve_1 (by decide) ?_
  refine fr_put C (fsi t 53 0 0) (j := 0) (ty := .int) hP hS (by omega) (fG_MO adr cs t) rfl (fun w h => List.mem_cons_of_mem _ (inl_X5 w h)) tyX5_ok nmX5 (by decide) rfl (List.mem_cons_of_mem _ mw_10_14) rfl (by decide +kernel) rfl rfl (Nat.le_of_ble_eq_true rfl) (fS_MO_0 adr cs t 0) (fG_fsi_ne adr cs t 53 0 0) dX5_curve_2 (fun H locs hP hS => ?_)
  obtain ⟨t1, et1⟩ : ∃ y : fcS, y = fsi t 53 0 0 := ⟨_, rfl⟩
  rw [← et1] at hP
  replace h := h t1 et1
  refine lv_iload_n hx hb dX5_curve_5 rfl (lv_at hl 1 rfl) ?_
  refine lv_i2l hx hb dX5_curve_6 rfl ?_
  refine lv_lconst (v := 0) hx hb dX5_curve_7 (by decide) ?_
  refine lv_ldc2 hx hb (v := 2) C.1.2.2.2.1 (C.1.2.2.2.2 _ (List.mem_cons_of_mem _ mw_18_1)) dX5_curve_8 ?_
  refine fr_ci (fr_runS (n := 3) (rest := []) C (c_X5_in l D adr cs hN t1 ((Int32.toInt64 a0)) 0 2 _ h) hP hS (fgS mw_11_3 mw_11_4 mw_1_5 mw_11_5) rfl rfl rfl (by decide +kernel) ⟨Nat.le_of_ble_eq_true rfl, Nat.le_of_ble_eq_true rfl⟩ rfl hl.1 rfl (Nat.le_of_ble_eq_true rfl) dX5_curve_11) hS (fun r3 t2 H locs h hP hS => ?_)
  refine lv_if_eq (tgt := 46) hx hb dX5_curve_14 (by decide) (fun c9 => ?_) (fun c9 => ?_)
  · replace h := h.1 c9
    refine lv_iconst (v := (-1)) hx hb dX5_curve_46 (by decide) ?_
    exact fr_iret C hP hS h dX5_curve_47
  · replace h := h.2 c9
    refine lv_aload_n hx hb dX5_curve_17 rfl (lv_at hl 0 rfl) ?_
    refine lv_iload_n hx hb dX5_curve_18 rfl (lv_at hl 2 rfl) ?_
    refine fr_ci (fr_runV (n := 1) (rest := []) C (c_X5_isShaped l D adr cs hN t2 a1 _ h) hP hS (by omega) (fG_MO adr cs t2) rfl (fgV mw_18_2 mw_18_3 mw_18_4 mw_1_5 mw_18_5) rfl rfl rfl (by decide +kernel) ⟨Nat.le_of_ble_eq_true rfl, Nat.le_of_ble_eq_true rfl⟩ rfl hl.1 rfl (Nat.le_of_ble_eq_true rfl) dX5_curve_19) hS (fun r5 t4 H locs h hP hS => ?_)
    refine lv_if_eq (tgt := 46) hx hb dX5_curve_22 (by decide) (fun c9 => ?_) (fun c9 => ?_)
    · replace h := h.1 c9
      refine lv_iconst (v := (-1)) hx hb dX5_curve_46 (by decide) ?_
      exact fr_iret C hP hS h dX5_curve_47
    · replace h := h.2 c9
      refine lv_iload_n hx hb dX5_curve_25 rfl (lv_at hl 1 rfl) ?_
      refine lv_iconst (v := 2) hx hb dX5_curve_26 (by decide) ?_
      refine lv_icmp_ne (tgt := 48) hx hb dX5_curve_27 (by decide) (fun c9 => ?_) (fun c9 => ?_)
      · replace h := h.1 c9
        exact k_X5_curve_48 hN C a0 a1 a2 t4 _ _ _ h hP hS (lv_sub hl [0, 1, 2, 3] rfl)
      · replace h := h.2 c9
        refine lv_iload_n hx hb dX5_curve_30 rfl (lv_at hl 3 rfl) ?_
        refine lv_i2l hx hb dX5_curve_31 rfl ?_
        refine lv_lconst (v := 0) hx hb dX5_curve_32 (by decide) ?_
        refine lv_aload_n hx hb dX5_curve_33 rfl (lv_at hl 0 rfl) ?_
        refine fr_get (j := 1) C hP (by omega) (fG_MO adr cs t4) rfl (fun w h => List.mem_cons_of_mem _ (inl_X5 w h)) (by decide) rfl (List.mem_cons_of_mem _ mw_7_5) rfl dX5_curve_34 ?_
        refine lv_iconst (v := 1) hx hb dX5_curve_37 (by decide) ?_
        refine lv_isub hx hb dX5_curve_38 ?_
        refine lv_i2l hx hb dX5_curve_39 rfl ?_
        refine fr_ci (fr_runS (n := 3) (rest := []) C (c_X5_in l D adr cs hN t4 ((Int32.toInt64 a2)) 0 ((Int32.toInt64 (((fgi t4 53 1) - 1)))) _ h) hP hS (fgS mw_11_3 mw_11_4 mw_1_5 mw_11_5) rfl rfl rfl (by decide +kernel) ⟨Nat.le_of_ble_eq_true rfl, Nat.le_of_ble_eq_true rfl⟩ rfl hl.1 rfl (Nat.le_of_ble_eq_true rfl) dX5_curve_40) hS (fun r29 t28 H locs h hP hS => ?_)
        refine lv_if_ne (tgt := 48) hx hb dX5_curve_43 (by decide) (fun c9 => ?_) (fun c9 => ?_)
        · replace h := h.1 c9
          exact k_X5_curve_48 hN C a0 a1 a2 t28 _ _ _ h hP hS (lv_sub hl [0, 1, 2, 3] rfl)
        · replace h := h.2 c9
          refine lv_iconst (v := (-1)) hx hb dX5_curve_46 (by decide) ?_
          exact fr_iret C hP hS h dX5_curve_47

/-! X5.knot -/
abbrev wm_X5_knot : List Cond := Cond.code yX5_knot cX5_knot 1 (some .int) :: wsL_law
def q_X5_knot (t : fcS) (post : Int32 → fcS → Prop) : Prop := ∀ t1 : fcS, t1 = fsi t 53 0 0 → (post ((fgi t1 53 11)) t1)
set_option maxHeartbeats 4000000 in
set_option maxRecDepth 100000 in
theorem c_X5_knot (l : Launch) (D : va_G) (adr : Nat → Nat) (cs : Nat → ClassId) {N : Nat} (hN : 67 ≤ N) (t : fcS)  (post : Int32 → fcS → Prop) (h : q_X5_knot t  post) : Met l yX5_knot wm_X5_knot ({ frames := 0, cells := 0, slots := 0, locals := 0 } : Room) (fcPre D adr cs N t [.ref (adr 53)]) (fQi D adr cs N post) 0 0 (faN adr N) := by
  refine f_enter (cc := cX5_knot) (nL := 1) (ret := some .int) (lv := [(0, .ref (adr 53))]) (own := RX5) (by decide) rfl (Nat.le_of_ble_eq_true rfl) rfl rfl ?_
  intro p e s m below meth c ls C hP hS hl
  have hx := C.1.1
  have hb := C.1.2.1
  unfold q_X5_knot at h
  refine lv_aload_n hx hb dX5_knot_0 rfl (lv_at hl 0 rfl) ?_
  refine lv_iconst (v := 0) hx hb dX5_knot_1 (by decide) ?_
  refine fr_put C (fsi t 53 0 0) (j := 0) (ty := .int) hP hS (by omega) (fG_MO adr cs t) rfl (fun w h => List.mem_cons_of_mem _ (inl_X5 w h)) tyX5_ok nmX5 (by decide) rfl (List.mem_cons_of_mem _ mw_10_14) rfl (by decide +kernel) rfl rfl (Nat.le_of_ble_eq_true rfl) (fS_MO_0 adr cs t 0) (fG_fsi_ne adr cs t 53 0 0) dX5_knot_2 (fun H locs hP hS => ?_)
  obtain ⟨t1, et1⟩ : ∃ y : fcS, y = fsi t 53 0 0 := ⟨_, rfl⟩
  rw [← et1] at hP
  replace h := h t1 et1
  refine lv_aload_n hx hb dX5_knot_5 rfl (lv_at hl 0 rfl) ?_
  refine fr_get (j := 11) C hP (by omega) (fG_MO adr cs t1) rfl (fun w h => List.mem_cons_of_mem _ (inl_X5 w h)) (by decide) rfl (List.mem_cons_of_mem _ mw_7_13) rfl dX5_knot_6 ?_
  exact fr_iret C hP hS h dX5_knot_9

/-! X5.about -/
abbrev wm_X5_about : List Cond := Cond.code yX5_about cX5_about 3 (some .int) :: wsL_law
def q_X5_about (t : fcS) (a0 : Int32) (a1 : Int32) (post : Int32 → fcS → Prop) : Prop := ∀ t1 : fcS, t1 = fsi t 53 0 0 → (q_X5_isCurve t1 a0 (fun (r3 : Int32) (t2 : fcS) => (r3 = 0 → (post ((-1)) t2)) ∧ (¬ r3 = 0 → (q_X5_in t2 ((Int32.toInt64 a1)) 0 5 (fun (r5 : Int32) (t4 : fcS) => (¬ r5 = 0 → ((a1 = 0 → ((vp_in a0 8) ∧ (post ((fga t4 56 (Int32.toNatClampNeg a0))) t4))) ∧ (¬ a1 = 0 → ((a1 = 1 → ((vp_in a0 8) ∧ (post ((fga t4 57 (Int32.toNatClampNeg a0))) t4))) ∧ (¬ a1 = 1 → ((a1 = 2 → ((vp_in a0 8) ∧ (post ((fga t4 58 (Int32.toNatClampNeg a0))) t4))) ∧ (¬ a1 = 2 → ((a1 = 3 → (q_X5_degreeOf t4 a0 (fun (r7 : Int32) (t6 : fcS) => post r7 t6))) ∧ (¬ a1 = 3 → ((a1 = 4 → (q_X5_genusOf t4 a0 (fun (r9 : Int32) (t8 : fcS) => post r9 t8))) ∧ (¬ a1 = 4 → (q_X5_loadOwn t4 10 a0 (fun (t10 : fcS) => q_X5_number t10 10 (fun (r12 : Int32) (t11 : fcS) => post r12 t11)))))))))))))) ∧ (r5 = 0 → (post ((-1)) t4)))))))
set_option maxHeartbeats 4000000 in
set_option maxRecDepth 100000 in
theorem c_X5_about (l : Launch) (D : va_G) (adr : Nat → Nat) (cs : Nat → ClassId) {N : Nat} (hN : 67 ≤ N) (t : fcS) (a0 : Int32) (a1 : Int32) (post : Int32 → fcS → Prop) (h : q_X5_about t a0 a1 post) : Met l yX5_about wm_X5_about ({ frames := 2, cells := 0, slots := 0, locals := 46 } : Room) (fcPre D adr cs N t [.ref (adr 53), .int a0, .int a1]) (fQi D adr cs N post) 0 0 (faN adr N) := by
  refine f_enter (cc := cX5_about) (nL := 3) (ret := some .int) (lv := [(0, .ref (adr 53)), (1, .int a0), (2, .int a1)]) (own := RX5) (by decide) rfl (Nat.le_of_ble_eq_true rfl) rfl rfl ?_
  intro p e s m below meth c ls C hP hS hl
  have hx := C.1.1
  have hb := C.1.2.1
  unfold q_X5_about at h
  refine lv_aload_n hx hb dX5_about_0 rfl (lv_at hl 0 rfl) ?_
  refine lv_iconst (v := 0) hx hb dX5_about_1 (by decide) ?_
  refine fr_put C (fsi t 53 0 0) (j := 0) (ty := .int) hP hS (by omega) (fG_MO adr cs t) rfl (fun w h => List.mem_cons_of_mem _ (inl_X5 w h)) tyX5_ok nmX5 (by decide) rfl (List.mem_cons_of_mem _ mw_10_14) rfl (by decide +kernel) rfl rfl (Nat.le_of_ble_eq_true rfl) (fS_MO_0 adr cs t 0) (fG_fsi_ne adr cs t 53 0 0) dX5_about_2 (fun H locs hP hS => ?_)
  obtain ⟨t1, et1⟩ : ∃ y : fcS, y = fsi t 53 0 0 := ⟨_, rfl⟩
  rw [← et1] at hP
  replace h := h t1 et1
  refine lv_aload_n hx hb dX5_about_5 rfl (lv_at hl 0 rfl) ?_
  refine lv_iload_n hx hb dX5_about_6 rfl (lv_at hl 1 rfl) ?_
  refine fr_ci (fr_runV (n := 1) (rest := []) C (c_X5_isCurve l D adr cs hN t1 a0 _ h) hP hS (by omega) (fG_MO adr cs t1) rfl (fgV mw_19_23 mw_20_0 mw_20_1 mw_1_5 mw_20_2) rfl rfl rfl (by decide +kernel) ⟨Nat.le_of_ble_eq_true rfl, Nat.le_of_ble_eq_true rfl⟩ rfl hl.1 rfl (Nat.le_of_ble_eq_true rfl) dX5_about_7) hS (fun r3 t2 H locs h hP hS => ?_)
  refine lv_if_eq (tgt := 25) hx hb dX5_about_10 (by decide) (fun c9 => ?_) (fun c9 => ?_)
  · replace h := h.1 c9
    refine lv_iconst (v := (-1)) hx hb dX5_about_25 (by decide) ?_
    exact fr_iret C hP hS h dX5_about_26
  · replace h := h.2 c9
    refine lv_iload_n hx hb dX5_about_13 rfl (lv_at hl 2 rfl) ?_
    refine lv_i2l hx hb dX5_about_14 rfl ?_
    refine lv_lconst (v := 0) hx hb dX5_about_15 (by decide) ?_
    refine lv_ldc2 hx hb (v := 5) C.1.2.2.2.1 (C.1.2.2.2.2 _ (List.mem_cons_of_mem _ mw_19_22)) dX5_about_16 ?_
    refine fr_ci (fr_runS (n := 3) (rest := []) C (c_X5_in l D adr cs hN t2 ((Int32.toInt64 a1)) 0 5 _ h) hP hS (fgS mw_11_3 mw_11_4 mw_1_5 mw_11_5) rfl rfl rfl (by decide +kernel) ⟨Nat.le_of_ble_eq_true rfl, Nat.le_of_ble_eq_true rfl⟩ rfl hl.1 rfl (Nat.le_of_ble_eq_true rfl) dX5_about_19) hS (fun r5 t4 H locs h hP hS => ?_)
    refine lv_if_ne (tgt := 27) hx hb dX5_about_22 (by decide) (fun c9 => ?_) (fun c9 => ?_)
    · replace h := h.1 c9
      refine lv_iload_n hx hb dX5_about_27 rfl (lv_at hl 2 rfl) ?_
      by_cases c0 : a1 = 0
      · replace h := h.1 c0
        refine lv_tableIn (off := 36) (tgt := 64) hx hb dX5_about_28 (by rw [c0]; decide) (by rw [c0]; decide) (by rw [c0]; rfl) (by decide) ?_
        refine lv_aload_n hx hb dX5_about_64 rfl (lv_at hl 0 rfl) ?_
        refine fr_get (j := 7) C hP (by omega) (fG_MO adr cs t4) rfl (fun w h => List.mem_cons_of_mem _ (inl_X5 w h)) (by decide) rfl (List.mem_cons_of_mem _ mw_7_9) rfl dX5_about_65 ?_
        refine lv_iload_n hx hb dX5_about_68 rfl (lv_at hl 1 rfl) ?_
        refine fr_iald C hP (by omega) (fG_56 adr cs t4) h.1 dX5_about_69 ?_
        replace h := h.2
        exact fr_iret C hP hS h dX5_about_70
      replace h := h.2 c0
      by_cases c1 : a1 = 1
      · replace h := h.1 c1
        refine lv_tableIn (off := 43) (tgt := 71) hx hb dX5_about_28 (by rw [c1]; decide) (by rw [c1]; decide) (by rw [c1]; rfl) (by decide) ?_
        refine lv_aload_n hx hb dX5_about_71 rfl (lv_at hl 0 rfl) ?_
        refine fr_get (j := 8) C hP (by omega) (fG_MO adr cs t4) rfl (fun w h => List.mem_cons_of_mem _ (inl_X5 w h)) (by decide) rfl (List.mem_cons_of_mem _ mw_7_10) rfl dX5_about_72 ?_
        refine lv_iload_n hx hb dX5_about_75 rfl (lv_at hl 1 rfl) ?_
        refine fr_iald C hP (by omega) (fG_57 adr cs t4) h.1 dX5_about_76 ?_
        replace h := h.2
        exact fr_iret C hP hS h dX5_about_77
      replace h := h.2 c1
      by_cases c2 : a1 = 2
      · replace h := h.1 c2
        refine lv_tableIn (off := 50) (tgt := 78) hx hb dX5_about_28 (by rw [c2]; decide) (by rw [c2]; decide) (by rw [c2]; rfl) (by decide) ?_
        refine lv_aload_n hx hb dX5_about_78 rfl (lv_at hl 0 rfl) ?_
        refine fr_get (j := 9) C hP (by omega) (fG_MO adr cs t4) rfl (fun w h => List.mem_cons_of_mem _ (inl_X5 w h)) (by decide) rfl (List.mem_cons_of_mem _ mw_7_11) rfl dX5_about_79 ?_
        refine lv_iload_n hx hb dX5_about_82 rfl (lv_at hl 1 rfl) ?_
        refine fr_iald C hP (by omega) (fG_58 adr cs t4) h.1 dX5_about_83 ?_
        replace h := h.2
        exact fr_iret C hP hS h dX5_about_84
      replace h := h.2 c2
      by_cases c3 : a1 = 3
      · replace h := h.1 c3
        refine lv_tableIn (off := 57) (tgt := 85) hx hb dX5_about_28 (by rw [c3]; decide) (by rw [c3]; decide) (by rw [c3]; rfl) (by decide) ?_
        refine lv_aload_n hx hb dX5_about_85 rfl (lv_at hl 0 rfl) ?_
        refine lv_iload_n hx hb dX5_about_86 rfl (lv_at hl 1 rfl) ?_
        refine fr_ci (fr_runV (n := 1) (rest := []) C (c_X5_degreeOf l D adr cs hN t4 a0 _ h) hP hS (by omega) (fG_MO adr cs t4) rfl (fgV mw_20_3 mw_20_4 mw_20_5 mw_1_5 mw_20_6) rfl rfl rfl (by decide +kernel) ⟨Nat.le_of_ble_eq_true rfl, Nat.le_of_ble_eq_true rfl⟩ rfl hl.1 rfl (Nat.le_of_ble_eq_true rfl) dX5_about_87) hS (fun r7 t6 H locs h hP hS => ?_)
        exact fr_iret C hP hS h dX5_about_90
      replace h := h.2 c3
      by_cases c4 : a1 = 4
      · replace h := h.1 c4
        refine lv_tableIn (off := 63) (tgt := 91) hx hb dX5_about_28 (by rw [c4]; decide) (by rw [c4]; decide) (by rw [c4]; rfl) (by decide) ?_
        refine lv_aload_n hx hb dX5_about_91 rfl (lv_at hl 0 rfl) ?_
        refine lv_iload_n hx hb dX5_about_92 rfl (lv_at hl 1 rfl) ?_
        refine fr_ci (fr_runV (n := 1) (rest := []) C (c_X5_genusOf l D adr cs hN t4 a0 _ h) hP hS (by omega) (fG_MO adr cs t4) rfl (fgV mw_20_7 mw_20_8 mw_20_9 mw_1_5 mw_20_10) rfl rfl rfl (by decide +kernel) ⟨Nat.le_of_ble_eq_true rfl, Nat.le_of_ble_eq_true rfl⟩ rfl hl.1 rfl (Nat.le_of_ble_eq_true rfl) dX5_about_93) hS (fun r9 t8 H locs h hP hS => ?_)
        exact fr_iret C hP hS h dX5_about_96
      replace h := h.2 c4
      refine lv_tableOut (tgt := 97) hx hb dX5_about_28 (by have q0 := lv_neT (a := 0) c0 (by decide); have q1 := lv_neT (a := 1) c1 (by decide); have q2 := lv_neT (a := 2) c2 (by decide); have q3 := lv_neT (a := 3) c3 (by decide); have q4 := lv_neT (a := 4) c4 (by decide); omega) (by decide) ?_
      refine lv_aload_n hx hb dX5_about_97 rfl (lv_at hl 0 rfl) ?_
      refine lv_bipush (v := 10) hx hb dX5_about_98 (by decide) ?_
      refine lv_iload_n hx hb dX5_about_100 rfl (lv_at hl 1 rfl) ?_
      refine fr_cv (fr_runV (n := 2) (rest := []) C (c_X5_loadOwn l D adr cs hN t4 10 a0 _ h) hP hS (by omega) (fG_MO adr cs t4) rfl (fgV mw_20_11 mw_20_12 mw_20_13 mw_1_5 mw_20_14) rfl rfl rfl (by decide +kernel) ⟨Nat.le_of_ble_eq_true rfl, Nat.le_of_ble_eq_true rfl⟩ rfl hl.1 rfl (Nat.le_of_ble_eq_true rfl) dX5_about_101) hS (fun t10 H locs h hP hS => ?_)
      refine lv_aload_n hx hb dX5_about_104 rfl (lv_at hl 0 rfl) ?_
      refine lv_bipush (v := 10) hx hb dX5_about_105 (by decide) ?_
      refine fr_ci (fr_runV (n := 1) (rest := []) C (c_X5_number l D adr cs hN t10 10 _ h) hP hS (by omega) (fG_MO adr cs t10) rfl (fgV mw_10_1 mw_10_2 mw_10_3 mw_1_5 mw_10_4) rfl rfl rfl (by decide +kernel) ⟨Nat.le_of_ble_eq_true rfl, Nat.le_of_ble_eq_true rfl⟩ rfl hl.1 rfl (Nat.le_of_ble_eq_true rfl) dX5_about_107) hS (fun r12 t11 H locs h hP hS => ?_)
      exact fr_iret C hP hS h dX5_about_110
    · replace h := h.2 c9
      refine lv_iconst (v := (-1)) hx hb dX5_about_25 (by decide) ?_
      exact fr_iret C hP hS h dX5_about_26

/-! X5.valueOf -/
abbrev wm_X5_valueOf : List Cond := Cond.code yX5_valueOf cX5_valueOf 6 (some .int) :: wsL_law
def q_X5_valueOf_7 (post : Int32 → fcS → Prop) : Nat → Int32 → Int32 → Int32 → Int32 → Int32 → fcS → Prop
  | 0, _, _, _, _, _, _ => False
  | n + 1, v1, v2, v3, v4, v5, t => (v5 < 0 → (post v4 t)) ∧ (¬ v5 < 0 → (q_X5_product t v2 v4 v3 (fun (r2 : Int32) (t1 : fcS) => (vp_in (((16 * v1) + v5)) 128) ∧ (q_X5_sum t1 r2 ((fga t1 59 (Int32.toNatClampNeg (((16 * v1) + v5))))) (fun (r4 : Int32) (t3 : fcS) => ∀ x5 : Int32, x5 = v5 + (-1) → (q_X5_valueOf_7 post n v1 v2 v3 r4 x5 t3))))))
def q_X5_valueOf (t : fcS) (a0 : Int32) (a1 : Int32) (a2 : Int32) (post : Int32 → fcS → Prop) : Prop := ∃ n0, q_X5_valueOf_7 post n0 a0 a1 a2 0 6 t
set_option maxHeartbeats 4000000 in
set_option maxRecDepth 100000 in
theorem k_X5_valueOf_7 {D : va_G} {adr : Nat → Nat} {cs : Nat → ClassId} {N : Nat} (hN : 67 ≤ N) {p : Program} {l : Launch} {e : Env} {s : State} {m : MethodId} {args : Array Value} {below : List Frame} {meth : Method} {c : Code} (C : fCx D adr cs N p s m args meth c cX5_valueOf 6 (some .int) RX5 wm_X5_valueOf) {post : Int32 → fcS → Prop} : ∀ (n : Nat) (v1 : Int32) (v2 : Int32) (v3 : Int32) (v4 : Int32) (v5 : Int32) (t : fcS) (H : Heap) (locs : List Loc) (ls : Array Slot), q_X5_valueOf_7 post n v1 v2 v3 v4 v5 t → va_P D vwCl (fwl adr N (fG adr cs t)) H → va_S (faN adr N) s.heap H locs → lv_has ls 6 [(0, .ref (adr 53)), (1, .int v1), (2, .int v2), (3, .int v3), (4, .int v4), (5, .int v5)] → W p l e ({ frames := 3, cells := 0, slots := 0, locals := 75 } : Room) s m args below meth c H locs 0 0 (MQ below (fQi D adr cs N post) args s 0 0 (faN adr N)) (F0 m 7 ls []) := by
  have hx := C.1.1
  have hb := C.1.2.1
  intro n
  induction n with
  | zero => intro v1 v2 v3 v4 v5 t H locs ls h; exact False.elim h
  | succ n ih =>
    intro v1 v2 v3 v4 v5 t H locs ls h hP hS hl
    unfold q_X5_valueOf_7 at h
    refine lv_iload hx hb dX5_valueOf_7 (lv_at hl 5 rfl) ?_
    refine lv_if_lt (tgt := 44) hx hb dX5_valueOf_9 (by decide) (fun c9 => ?_) (fun c9 => ?_)
    · replace h := h.1 c9
      refine lv_iload hx hb dX5_valueOf_44 (lv_at hl 4 rfl) ?_
      exact fr_iret C hP hS h dX5_valueOf_46
    · replace h := h.2 c9
      refine lv_aload_n hx hb dX5_valueOf_12 rfl (lv_at hl 0 rfl) ?_
      refine lv_aload_n hx hb dX5_valueOf_13 rfl (lv_at hl 0 rfl) ?_
      refine lv_iload_n hx hb dX5_valueOf_14 rfl (lv_at hl 2 rfl) ?_
      refine lv_iload hx hb dX5_valueOf_15 (lv_at hl 4 rfl) ?_
      refine lv_iload_n hx hb dX5_valueOf_17 rfl (lv_at hl 3 rfl) ?_
      refine fr_ci (fr_runV (n := 3) (rest := [.ref (adr 53)]) C (c_X5_product l D adr cs hN t v2 v4 v3 _ h) hP hS (by omega) (fG_MO adr cs t) rfl (fgV mw_9_17 mw_9_18 mw_9_19 mw_1_5 mw_9_20) rfl rfl rfl (by decide +kernel) ⟨Nat.le_of_ble_eq_true rfl, Nat.le_of_ble_eq_true rfl⟩ rfl hl.1 rfl (Nat.le_of_ble_eq_true rfl) dX5_valueOf_18) hS (fun r2 t1 H locs h hP hS => ?_)
      refine lv_aload_n hx hb dX5_valueOf_21 rfl (lv_at hl 0 rfl) ?_
      refine fr_get (j := 10) C hP (by omega) (fG_MO adr cs t1) rfl (fun w h => List.mem_cons_of_mem _ (inl_X5 w h)) (by decide) rfl (List.mem_cons_of_mem _ mw_7_12) rfl dX5_valueOf_22 ?_
      refine lv_bipush (v := 16) hx hb dX5_valueOf_25 (by decide) ?_
      refine lv_iload_n hx hb dX5_valueOf_27 rfl (lv_at hl 1 rfl) ?_
      refine lv_imul hx hb dX5_valueOf_28 ?_
      refine lv_iload hx hb dX5_valueOf_29 (lv_at hl 5 rfl) ?_
      refine lv_iadd hx hb dX5_valueOf_31 ?_
      refine fr_iald C hP (by omega) (fG_59 adr cs t1) h.1 dX5_valueOf_32 ?_
      replace h := h.2
      refine fr_ci (fr_runV (n := 2) (rest := []) C (c_X5_sum l D adr cs hN t1 r2 ((fga t1 59 (Int32.toNatClampNeg (((16 * v1) + v5))))) _ h) hP hS (by omega) (fG_MO adr cs t1) rfl (fgV mw_12_7 mw_12_8 mw_12_9 mw_1_5 mw_12_10) rfl rfl rfl (by decide +kernel) ⟨Nat.le_of_ble_eq_true rfl, Nat.le_of_ble_eq_true rfl⟩ rfl hl.1 rfl (Nat.le_of_ble_eq_true rfl) dX5_valueOf_33) hS (fun r4 t3 H locs h hP hS => ?_)
      refine lv_istore (lv' := [(4, .int r4), (0, .ref (adr 53)), (1, .int v1), (2, .int v2), (3, .int v3), (5, .int v5)]) hx hb dX5_valueOf_36 hl (by decide) rfl (fun ls hl => ?_)
      obtain ⟨x5, ex5⟩ : ∃ y : Int32, y = v5 + (-1) := ⟨_, rfl⟩
      replace h := h x5 ex5
      refine lv_iinc (v := x5) (lv' := [(5, .int x5), (4, .int r4), (0, .ref (adr 53)), (1, .int v1), (2, .int v2), (3, .int v3)]) hx hb dX5_valueOf_38 hl (k := 5) rfl (by rw [ex5]; rfl) (by decide) rfl (fun ls hl => ?_)
      refine lv_goto (tgt := 7) hx hb dX5_valueOf_41 (by decide) ?_
      exact ih v1 v2 v3 r4 x5 t3 _ _ _ h hP hS (lv_sub hl [2, 3, 4, 5, 1, 0] rfl)

set_option maxHeartbeats 4000000 in
set_option maxRecDepth 100000 in
theorem c_X5_valueOf (l : Launch) (D : va_G) (adr : Nat → Nat) (cs : Nat → ClassId) {N : Nat} (hN : 67 ≤ N) (t : fcS) (a0 : Int32) (a1 : Int32) (a2 : Int32) (post : Int32 → fcS → Prop) (h : q_X5_valueOf t a0 a1 a2 post) : Met l yX5_valueOf wm_X5_valueOf ({ frames := 3, cells := 0, slots := 0, locals := 75 } : Room) (fcPre D adr cs N t [.ref (adr 53), .int a0, .int a1, .int a2]) (fQi D adr cs N post) 0 0 (faN adr N) := by
  refine f_enter (cc := cX5_valueOf) (nL := 6) (ret := some .int) (lv := [(0, .ref (adr 53)), (1, .int a0), (2, .int a1), (3, .int a2)]) (own := RX5) (by decide) rfl (Nat.le_of_ble_eq_true rfl) rfl rfl ?_
  intro p e s m below meth c ls C hP hS hl
  have hx := C.1.1
  have hb := C.1.2.1
  unfold q_X5_valueOf at h
  refine lv_iconst (v := 0) hx hb dX5_valueOf_0 (by decide) ?_
  refine lv_istore (lv' := [(4, .int 0), (0, .ref (adr 53)), (1, .int a0), (2, .int a1), (3, .int a2)]) hx hb dX5_valueOf_1 hl (by decide) rfl (fun ls hl => ?_)
  refine lv_bipush (v := 6) hx hb dX5_valueOf_3 (by decide) ?_
  refine lv_istore (lv' := [(5, .int 6), (4, .int 0), (0, .ref (adr 53)), (1, .int a0), (2, .int a1), (3, .int a2)]) hx hb dX5_valueOf_5 hl (by decide) rfl (fun ls hl => ?_)
  obtain ⟨n9, h⟩ := h
  exact k_X5_valueOf_7 hN C n9 a0 a1 a2 0 6 t _ _ _ h hP hS (lv_sub hl [2, 3, 4, 5, 1, 0] rfl)

/-! X5.value -/
abbrev wm_X5_value : List Cond := Cond.code yX5_value cX5_value 4 (some .int) :: wsL_law
def q_X5_value (t : fcS) (a0 : Int32) (a1 : Int32) (a2 : Int32) (post : Int32 → fcS → Prop) : Prop := ∀ t1 : fcS, t1 = fsi t 53 0 0 → (q_X5_isCurve t1 a0 (fun (r3 : Int32) (t2 : fcS) => (r3 = 0 → (post ((-1)) t2)) ∧ (¬ r3 = 0 → (q_X5_isNumber t2 a1 a2 (fun (r5 : Int32) (t4 : fcS) => (¬ r5 = 0 → ((vp_in a0 8) ∧ ((¬ (fga t4 56 (Int32.toNatClampNeg a0)) = 0 → ((vp_in a0 8) ∧ ((¬ (fga t4 56 (Int32.toNatClampNeg a0)) = 1 → (∀ t6 : fcS, t6 = fsj t4 53 12 (((fgj t4 53 12) + 111)) → (q_X5_valueOf t6 a0 a1 a2 (fun (r8 : Int32) (t7 : fcS) => post r8 t7)))) ∧ ((fga t4 56 (Int32.toNatClampNeg a0)) = 1 → (∀ t9 : fcS, t9 = fsj t4 53 12 (((fgj t4 53 12) + 11)) → (q_X5_valueOf t9 a0 a1 a2 (fun (r11 : Int32) (t10 : fcS) => post r11 t10))))))) ∧ ((fga t4 56 (Int32.toNatClampNeg a0)) = 0 → (∀ t12 : fcS, t12 = fsj t4 53 12 (((fgj t4 53 12) + 1)) → (q_X5_valueOf t12 a0 a1 a2 (fun (r14 : Int32) (t13 : fcS) => post r14 t13))))))) ∧ (r5 = 0 → (post ((-1)) t4)))))))
set_option maxHeartbeats 4000000 in
set_option maxRecDepth 100000 in
theorem c_X5_value (l : Launch) (D : va_G) (adr : Nat → Nat) (cs : Nat → ClassId) {N : Nat} (hN : 67 ≤ N) (t : fcS) (a0 : Int32) (a1 : Int32) (a2 : Int32) (post : Int32 → fcS → Prop) (h : q_X5_value t a0 a1 a2 post) : Met l yX5_value wm_X5_value ({ frames := 4, cells := 0, slots := 0, locals := 100 } : Room) (fcPre D adr cs N t [.ref (adr 53), .int a0, .int a1, .int a2]) (fQi D adr cs N post) 0 0 (faN adr N) := by
  refine f_enter (cc := cX5_value) (nL := 4) (ret := some .int) (lv := [(0, .ref (adr 53)), (1, .int a0), (2, .int a1), (3, .int a2)]) (own := RX5) (by decide) rfl (Nat.le_of_ble_eq_true rfl) rfl rfl ?_
  intro p e s m below meth c ls C hP hS hl
  have hx := C.1.1
  have hb := C.1.2.1
  unfold q_X5_value at h
  refine lv_aload_n hx hb dX5_value_0 rfl (lv_at hl 0 rfl) ?_
  refine lv_iconst (v := 0) hx hb dX5_value_1 (by decide) ?_
  refine fr_put C (fsi t 53 0 0) (j := 0) (ty := .int) hP hS (by omega) (fG_MO adr cs t) rfl (fun w h => List.mem_cons_of_mem _ (inl_X5 w h)) tyX5_ok nmX5 (by decide) rfl (List.mem_cons_of_mem _ mw_10_14) rfl (by decide +kernel) rfl rfl (Nat.le_of_ble_eq_true rfl) (fS_MO_0 adr cs t 0) (fG_fsi_ne adr cs t 53 0 0) dX5_value_2 (fun H locs hP hS => ?_)
  obtain ⟨t1, et1⟩ : ∃ y : fcS, y = fsi t 53 0 0 := ⟨_, rfl⟩
  rw [← et1] at hP
  replace h := h t1 et1
  refine lv_aload_n hx hb dX5_value_5 rfl (lv_at hl 0 rfl) ?_
  refine lv_iload_n hx hb dX5_value_6 rfl (lv_at hl 1 rfl) ?_
  refine fr_ci (fr_runV (n := 1) (rest := []) C (c_X5_isCurve l D adr cs hN t1 a0 _ h) hP hS (by omega) (fG_MO adr cs t1) rfl (fgV mw_19_23 mw_20_0 mw_20_1 mw_1_5 mw_20_2) rfl rfl rfl (by decide +kernel) ⟨Nat.le_of_ble_eq_true rfl, Nat.le_of_ble_eq_true rfl⟩ rfl hl.1 rfl (Nat.le_of_ble_eq_true rfl) dX5_value_7) hS (fun r3 t2 H locs h hP hS => ?_)
  refine lv_if_eq (tgt := 22) hx hb dX5_value_10 (by decide) (fun c9 => ?_) (fun c9 => ?_)
  · replace h := h.1 c9
    refine lv_iconst (v := (-1)) hx hb dX5_value_22 (by decide) ?_
    exact fr_iret C hP hS h dX5_value_23
  · replace h := h.2 c9
    refine lv_aload_n hx hb dX5_value_13 rfl (lv_at hl 0 rfl) ?_
    refine lv_iload_n hx hb dX5_value_14 rfl (lv_at hl 2 rfl) ?_
    refine lv_iload_n hx hb dX5_value_15 rfl (lv_at hl 3 rfl) ?_
    refine fr_ci (fr_runV (n := 2) (rest := []) C (c_X5_isNumber l D adr cs hN t2 a1 a2 _ h) hP hS (by omega) (fG_MO adr cs t2) rfl (fgV mw_12_3 mw_12_4 mw_12_5 mw_1_5 mw_12_6) rfl rfl rfl (by decide +kernel) ⟨Nat.le_of_ble_eq_true rfl, Nat.le_of_ble_eq_true rfl⟩ rfl hl.1 rfl (Nat.le_of_ble_eq_true rfl) dX5_value_16) hS (fun r5 t4 H locs h hP hS => ?_)
    refine lv_if_ne (tgt := 24) hx hb dX5_value_19 (by decide) (fun c9 => ?_) (fun c9 => ?_)
    · replace h := h.1 c9
      refine lv_aload_n hx hb dX5_value_24 rfl (lv_at hl 0 rfl) ?_
      refine lv_dup hx hb dX5_value_25 rfl ?_
      refine fr_get (j := 12) C hP (by omega) (fG_MO adr cs t4) rfl (fun w h => List.mem_cons_of_mem _ (inl_X5 w h)) (by decide) rfl (List.mem_cons_of_mem _ mw_21_9) rfl dX5_value_26 ?_
      refine lv_aload_n hx hb dX5_value_29 rfl (lv_at hl 0 rfl) ?_
      refine fr_get (j := 7) C hP (by omega) (fG_MO adr cs t4) rfl (fun w h => List.mem_cons_of_mem _ (inl_X5 w h)) (by decide) rfl (List.mem_cons_of_mem _ mw_7_9) rfl dX5_value_30 ?_
      refine lv_iload_n hx hb dX5_value_33 rfl (lv_at hl 1 rfl) ?_
      refine fr_iald C hP (by omega) (fG_56 adr cs t4) h.1 dX5_value_34 ?_
      replace h := h.2
      refine lv_if_ne (tgt := 42) hx hb dX5_value_35 (by decide) (fun c9 => ?_) (fun c9 => ?_)
      · replace h := h.1 c9
        refine lv_aload_n hx hb dX5_value_42 rfl (lv_at hl 0 rfl) ?_
        refine fr_get (j := 7) C hP (by omega) (fG_MO adr cs t4) rfl (fun w h => List.mem_cons_of_mem _ (inl_X5 w h)) (by decide) rfl (List.mem_cons_of_mem _ mw_7_9) rfl dX5_value_43 ?_
        refine lv_iload_n hx hb dX5_value_46 rfl (lv_at hl 1 rfl) ?_
        refine fr_iald C hP (by omega) (fG_56 adr cs t4) h.1 dX5_value_47 ?_
        replace h := h.2
        refine lv_iconst (v := 1) hx hb dX5_value_48 (by decide) ?_
        refine lv_icmp_ne (tgt := 58) hx hb dX5_value_49 (by decide) (fun c9 => ?_) (fun c9 => ?_)
        · replace h := h.1 c9
          refine lv_ldc2 hx hb (v := 111) C.1.2.2.2.1 (C.1.2.2.2.2 _ (List.mem_cons_of_mem _ mw_21_11)) dX5_value_58 ?_
          refine lv_ladd hx hb dX5_value_61 ?_
          refine fr_put C (fsj t4 53 12 (((fgj t4 53 12) + 111))) (j := 12) (ty := .long) hP hS (by omega) (fG_MO adr cs t4) rfl (fun w h => List.mem_cons_of_mem _ (inl_X5 w h)) tyX5_ok nmX5 (by decide) rfl (List.mem_cons_of_mem _ mw_21_9) rfl (by decide +kernel) rfl rfl (Nat.le_of_ble_eq_true rfl) (fS_MO_12 adr cs t4 (((fgj t4 53 12) + 111))) (fG_fsj_ne adr cs t4 53 12 (((fgj t4 53 12) + 111))) dX5_value_62 (fun H locs hP hS => ?_)
          obtain ⟨t6, et6⟩ : ∃ y : fcS, y = fsj t4 53 12 (((fgj t4 53 12) + 111)) := ⟨_, rfl⟩
          rw [← et6] at hP
          replace h := h t6 et6
          refine lv_aload_n hx hb dX5_value_65 rfl (lv_at hl 0 rfl) ?_
          refine lv_iload_n hx hb dX5_value_66 rfl (lv_at hl 1 rfl) ?_
          refine lv_iload_n hx hb dX5_value_67 rfl (lv_at hl 2 rfl) ?_
          refine lv_iload_n hx hb dX5_value_68 rfl (lv_at hl 3 rfl) ?_
          refine fr_ci (fr_runV (n := 3) (rest := []) C (c_X5_valueOf l D adr cs hN t6 a0 a1 a2 _ h) hP hS (by omega) (fG_MO adr cs t6) rfl (fgV mw_21_12 mw_21_13 mw_21_14 mw_1_5 mw_21_15) rfl rfl rfl (by decide +kernel) ⟨Nat.le_of_ble_eq_true rfl, Nat.le_of_ble_eq_true rfl⟩ rfl hl.1 rfl (Nat.le_of_ble_eq_true rfl) dX5_value_69) hS (fun r8 t7 H locs h hP hS => ?_)
          exact fr_iret C hP hS h dX5_value_72
        · replace h := h.2 c9
          refine lv_ldc2 hx hb (v := 11) C.1.2.2.2.1 (C.1.2.2.2.2 _ (List.mem_cons_of_mem _ mw_21_10)) dX5_value_52 ?_
          refine lv_goto (tgt := 61) hx hb dX5_value_55 (by decide) ?_
          refine lv_ladd hx hb dX5_value_61 ?_
          refine fr_put C (fsj t4 53 12 (((fgj t4 53 12) + 11))) (j := 12) (ty := .long) hP hS (by omega) (fG_MO adr cs t4) rfl (fun w h => List.mem_cons_of_mem _ (inl_X5 w h)) tyX5_ok nmX5 (by decide) rfl (List.mem_cons_of_mem _ mw_21_9) rfl (by decide +kernel) rfl rfl (Nat.le_of_ble_eq_true rfl) (fS_MO_12 adr cs t4 (((fgj t4 53 12) + 11))) (fG_fsj_ne adr cs t4 53 12 (((fgj t4 53 12) + 11))) dX5_value_62 (fun H locs hP hS => ?_)
          obtain ⟨t9, et9⟩ : ∃ y : fcS, y = fsj t4 53 12 (((fgj t4 53 12) + 11)) := ⟨_, rfl⟩
          rw [← et9] at hP
          replace h := h t9 et9
          refine lv_aload_n hx hb dX5_value_65 rfl (lv_at hl 0 rfl) ?_
          refine lv_iload_n hx hb dX5_value_66 rfl (lv_at hl 1 rfl) ?_
          refine lv_iload_n hx hb dX5_value_67 rfl (lv_at hl 2 rfl) ?_
          refine lv_iload_n hx hb dX5_value_68 rfl (lv_at hl 3 rfl) ?_
          refine fr_ci (fr_runV (n := 3) (rest := []) C (c_X5_valueOf l D adr cs hN t9 a0 a1 a2 _ h) hP hS (by omega) (fG_MO adr cs t9) rfl (fgV mw_21_12 mw_21_13 mw_21_14 mw_1_5 mw_21_15) rfl rfl rfl (by decide +kernel) ⟨Nat.le_of_ble_eq_true rfl, Nat.le_of_ble_eq_true rfl⟩ rfl hl.1 rfl (Nat.le_of_ble_eq_true rfl) dX5_value_69) hS (fun r11 t10 H locs h hP hS => ?_)
          exact fr_iret C hP hS h dX5_value_72
      · replace h := h.2 c9
        refine lv_lconst (v := 1) hx hb dX5_value_38 (by decide) ?_
        refine lv_goto (tgt := 61) hx hb dX5_value_39 (by decide) ?_
        refine lv_ladd hx hb dX5_value_61 ?_
        refine fr_put C (fsj t4 53 12 (((fgj t4 53 12) + 1))) (j := 12) (ty := .long) hP hS (by omega) (fG_MO adr cs t4) rfl (fun w h => List.mem_cons_of_mem _ (inl_X5 w h)) tyX5_ok nmX5 (by decide) rfl (List.mem_cons_of_mem _ mw_21_9) rfl (by decide +kernel) rfl rfl (Nat.le_of_ble_eq_true rfl) (fS_MO_12 adr cs t4 (((fgj t4 53 12) + 1))) (fG_fsj_ne adr cs t4 53 12 (((fgj t4 53 12) + 1))) dX5_value_62 (fun H locs hP hS => ?_)
        obtain ⟨t12, et12⟩ : ∃ y : fcS, y = fsj t4 53 12 (((fgj t4 53 12) + 1)) := ⟨_, rfl⟩
        rw [← et12] at hP
        replace h := h t12 et12
        refine lv_aload_n hx hb dX5_value_65 rfl (lv_at hl 0 rfl) ?_
        refine lv_iload_n hx hb dX5_value_66 rfl (lv_at hl 1 rfl) ?_
        refine lv_iload_n hx hb dX5_value_67 rfl (lv_at hl 2 rfl) ?_
        refine lv_iload_n hx hb dX5_value_68 rfl (lv_at hl 3 rfl) ?_
        refine fr_ci (fr_runV (n := 3) (rest := []) C (c_X5_valueOf l D adr cs hN t12 a0 a1 a2 _ h) hP hS (by omega) (fG_MO adr cs t12) rfl (fgV mw_21_12 mw_21_13 mw_21_14 mw_1_5 mw_21_15) rfl rfl rfl (by decide +kernel) ⟨Nat.le_of_ble_eq_true rfl, Nat.le_of_ble_eq_true rfl⟩ rfl hl.1 rfl (Nat.le_of_ble_eq_true rfl) dX5_value_69) hS (fun r14 t13 H locs h hP hS => ?_)
        exact fr_iret C hP hS h dX5_value_72
    · replace h := h.2 c9
      refine lv_iconst (v := (-1)) hx hb dX5_value_22 (by decide) ?_
      exact fr_iret C hP hS h dX5_value_23

/-! X5.beyondOf -/
abbrev wm_X5_beyondOf : List Cond := Cond.code yX5_beyondOf cX5_beyondOf 4 (some .int) :: wsL_law
def q_X5_beyondOf (t : fcS) (a0 : Int32) (a1 : Int32) (post : Int32 → fcS → Prop) : Prop := q_X5_degreeOf t a0 (fun (r2 : Int32) (t1 : fcS) => q_X5_needSigns t1 a1 (fun (t3 : fcS) => (¬ (2 : Int32) = 0) ∧ ((¬ (irm r2 2) = 1 → ((vp_in (((16 * a0) + r2)) 128) ∧ ((vp_in ((fga t3 59 (Int32.toNatClampNeg (((16 * a0) + r2))))) 344) ∧ ((¬ (fga t3 61 (Int32.toNatClampNeg ((fga t3 59 (Int32.toNatClampNeg (((16 * a0) + r2))))))) = 1 → (post 0 t3)) ∧ ((fga t3 61 (Int32.toNatClampNeg ((fga t3 59 (Int32.toNatClampNeg (((16 * a0) + r2))))))) = 1 → (post 2 t3)))))) ∧ ((irm r2 2) = 1 → (post 1 t3)))))
set_option maxHeartbeats 4000000 in
set_option maxRecDepth 100000 in
theorem c_X5_beyondOf (l : Launch) (D : va_G) (adr : Nat → Nat) (cs : Nat → ClassId) {N : Nat} (hN : 67 ≤ N) (t : fcS) (a0 : Int32) (a1 : Int32) (post : Int32 → fcS → Prop) (h : q_X5_beyondOf t a0 a1 post) : Met l yX5_beyondOf wm_X5_beyondOf ({ frames := 4, cells := 0, slots := 0, locals := 97 } : Room) (fcPre D adr cs N t [.ref (adr 53), .int a0, .int a1]) (fQi D adr cs N post) 0 0 (faN adr N) := by
  refine f_enter (cc := cX5_beyondOf) (nL := 4) (ret := some .int) (lv := [(0, .ref (adr 53)), (1, .int a0), (2, .int a1)]) (own := RX5) (by decide) rfl (Nat.le_of_ble_eq_true rfl) rfl rfl ?_
  intro p e s m below meth c ls C hP hS hl
  have hx := C.1.1
  have hb := C.1.2.1
  unfold q_X5_beyondOf at h
  refine lv_aload_n hx hb dX5_beyondOf_0 rfl (lv_at hl 0 rfl) ?_
  refine lv_iload_n hx hb dX5_beyondOf_1 rfl (lv_at hl 1 rfl) ?_
  refine fr_ci (fr_runV (n := 1) (rest := []) C (c_X5_degreeOf l D adr cs hN t a0 _ h) hP hS (by omega) (fG_MO adr cs t) rfl (fgV mw_20_3 mw_20_4 mw_20_5 mw_1_5 mw_20_6) rfl rfl rfl (by decide +kernel) ⟨Nat.le_of_ble_eq_true rfl, Nat.le_of_ble_eq_true rfl⟩ rfl hl.1 rfl (Nat.le_of_ble_eq_true rfl) dX5_beyondOf_2) hS (fun r2 t1 H locs h hP hS => ?_)
  refine lv_istore_n (lv' := [(3, .int r2), (0, .ref (adr 53)), (1, .int a0), (2, .int a1)]) hx hb dX5_beyondOf_5 rfl hl (by decide) rfl (fun ls hl => ?_)
  refine lv_aload_n hx hb dX5_beyondOf_6 rfl (lv_at hl 1 rfl) ?_
  refine lv_iload_n hx hb dX5_beyondOf_7 rfl (lv_at hl 3 rfl) ?_
  refine fr_cv (fr_runV (n := 1) (rest := []) C (c_X5_needSigns l D adr cs hN t1 a1 _ h) hP hS (by omega) (fG_MO adr cs t1) rfl (fgV mw_9_13 mw_9_14 mw_9_15 mw_1_5 mw_9_16) rfl rfl rfl (by decide +kernel) ⟨Nat.le_of_ble_eq_true rfl, Nat.le_of_ble_eq_true rfl⟩ rfl hl.1 rfl (Nat.le_of_ble_eq_true rfl) dX5_beyondOf_8) hS (fun t3 H locs h hP hS => ?_)
  refine lv_iload_n hx hb dX5_beyondOf_11 rfl (lv_at hl 0 rfl) ?_
  refine lv_iconst (v := 2) hx hb dX5_beyondOf_12 (by decide) ?_
  refine lv_irem hx hb dX5_beyondOf_13 h.1 ?_
  replace h := h.2
  refine lv_iconst (v := 1) hx hb dX5_beyondOf_14 (by decide) ?_
  refine lv_icmp_ne (tgt := 22) hx hb dX5_beyondOf_15 (by decide) (fun c9 => ?_) (fun c9 => ?_)
  · replace h := h.1 c9
    refine lv_aload_n hx hb dX5_beyondOf_22 rfl (lv_at hl 1 rfl) ?_
    refine fr_get (j := 14) C hP (by omega) (fG_MO adr cs t3) rfl (fun w h => List.mem_cons_of_mem _ (inl_X5 w h)) (by decide) rfl (List.mem_cons_of_mem _ mw_7_15) rfl dX5_beyondOf_23 ?_
    refine lv_aload_n hx hb dX5_beyondOf_26 rfl (lv_at hl 1 rfl) ?_
    refine fr_get (j := 10) C hP (by omega) (fG_MO adr cs t3) rfl (fun w h => List.mem_cons_of_mem _ (inl_X5 w h)) (by decide) rfl (List.mem_cons_of_mem _ mw_7_12) rfl dX5_beyondOf_27 ?_
    refine lv_bipush (v := 16) hx hb dX5_beyondOf_30 (by decide) ?_
    refine lv_iload_n hx hb dX5_beyondOf_32 rfl (lv_at hl 2 rfl) ?_
    refine lv_imul hx hb dX5_beyondOf_33 ?_
    refine lv_iload_n hx hb dX5_beyondOf_34 rfl (lv_at hl 0 rfl) ?_
    refine lv_iadd hx hb dX5_beyondOf_35 ?_
    refine fr_iald C hP (by omega) (fG_59 adr cs t3) h.1 dX5_beyondOf_36 ?_
    replace h := h.2
    refine fr_iald C hP (by omega) (fG_61 adr cs t3) h.1 dX5_beyondOf_37 ?_
    replace h := h.2
    refine lv_iconst (v := 1) hx hb dX5_beyondOf_38 (by decide) ?_
    refine lv_icmp_ne (tgt := 46) hx hb dX5_beyondOf_39 (by decide) (fun c9 => ?_) (fun c9 => ?_)
    · replace h := h.1 c9
      refine lv_iconst (v := 0) hx hb dX5_beyondOf_46 (by decide) ?_
      exact fr_iret C hP hS h dX5_beyondOf_47
    · replace h := h.2 c9
      refine lv_iconst (v := 2) hx hb dX5_beyondOf_42 (by decide) ?_
      refine lv_goto (tgt := 47) hx hb dX5_beyondOf_43 (by decide) ?_
      exact fr_iret C hP hS h dX5_beyondOf_47
  · replace h := h.2 c9
    refine lv_iconst (v := 1) hx hb dX5_beyondOf_18 (by decide) ?_
    refine lv_goto (tgt := 47) hx hb dX5_beyondOf_19 (by decide) ?_
    exact fr_iret C hP hS h dX5_beyondOf_47

/-! X5.countOf -/
abbrev wm_X5_countOf : List Cond := Cond.code yX5_countOf cX5_countOf 5 (some .int) :: wsL_law
def q_X5_countOf_10 (post : Int32 → fcS → Prop) : Nat → Int32 → Int32 → Int32 → Int32 → fcS → Prop
  | 0, _, _, _, _, _ => False
  | n + 1, v1, v2, v3, v4, t => (vp_in v2 6) ∧ (((fga t 54 (Int32.toNatClampNeg v2)) ≤ v4 → (q_X5_beyondOf t v1 v2 (fun (r3 : Int32) (t2 : fcS) => post ((v3 + r3)) t2))) ∧ (¬ (fga t 54 (Int32.toNatClampNeg v2)) ≤ v4 → (q_X5_valueOf t v1 v2 v4 (fun (r5 : Int32) (t4 : fcS) => (vp_in r5 344) ∧ (∀ x6 : Int32, x6 = (v3 + (1 + (fga t4 61 (Int32.toNatClampNeg r5)))) → (∀ x7 : Int32, x7 = v4 + 1 → (q_X5_countOf_10 post n v1 v2 x6 x7 t4)))))))
def q_X5_countOf (t : fcS) (a0 : Int32) (a1 : Int32) (post : Int32 → fcS → Prop) : Prop := q_X5_needSigns t a1 (fun (t1 : fcS) => ∃ n0, q_X5_countOf_10 post n0 a0 a1 0 0 t1)
set_option maxHeartbeats 4000000 in
set_option maxRecDepth 100000 in
theorem k_X5_countOf_10 {D : va_G} {adr : Nat → Nat} {cs : Nat → ClassId} {N : Nat} (hN : 67 ≤ N) {p : Program} {l : Launch} {e : Env} {s : State} {m : MethodId} {args : Array Value} {below : List Frame} {meth : Method} {c : Code} (C : fCx D adr cs N p s m args meth c cX5_countOf 5 (some .int) RX5 wm_X5_countOf) {post : Int32 → fcS → Prop} : ∀ (n : Nat) (v1 : Int32) (v2 : Int32) (v3 : Int32) (v4 : Int32) (t : fcS) (H : Heap) (locs : List Loc) (ls : Array Slot), q_X5_countOf_10 post n v1 v2 v3 v4 t → va_P D vwCl (fwl adr N (fG adr cs t)) H → va_S (faN adr N) s.heap H locs → lv_has ls 5 [(0, .ref (adr 53)), (1, .int v1), (2, .int v2), (3, .int v3), (4, .int v4)] → W p l e ({ frames := 5, cells := 0, slots := 0, locals := 120 } : Room) s m args below meth c H locs 0 0 (MQ below (fQi D adr cs N post) args s 0 0 (faN adr N)) (F0 m 10 ls []) := by
  have hx := C.1.1
  have hb := C.1.2.1
  intro n
  induction n with
  | zero => intro v1 v2 v3 v4 t H locs ls h; exact False.elim h
  | succ n ih =>
    intro v1 v2 v3 v4 t H locs ls h hP hS hl
    unfold q_X5_countOf_10 at h
    refine lv_iload hx hb dX5_countOf_10 (lv_at hl 4 rfl) ?_
    refine lv_aload_n hx hb dX5_countOf_12 rfl (lv_at hl 0 rfl) ?_
    refine fr_get (j := 3) C hP (by omega) (fG_MO adr cs t) rfl (fun w h => List.mem_cons_of_mem _ (inl_X5 w h)) (by decide) rfl (List.mem_cons_of_mem _ mw_7_7) rfl dX5_countOf_13 ?_
    refine lv_iload_n hx hb dX5_countOf_16 rfl (lv_at hl 2 rfl) ?_
    refine fr_iald C hP (by omega) (fG_54 adr cs t) h.1 dX5_countOf_17 ?_
    replace h := h.2
    refine lv_icmp_ge (tgt := 45) hx hb dX5_countOf_18 (by decide) (fun c9 => ?_) (fun c9 => ?_)
    · replace h := h.1 c9
      refine lv_iload_n hx hb dX5_countOf_45 rfl (lv_at hl 3 rfl) ?_
      refine lv_aload_n hx hb dX5_countOf_46 rfl (lv_at hl 0 rfl) ?_
      refine lv_iload_n hx hb dX5_countOf_47 rfl (lv_at hl 1 rfl) ?_
      refine lv_iload_n hx hb dX5_countOf_48 rfl (lv_at hl 2 rfl) ?_
      refine fr_ci (fr_runV (n := 2) (rest := [.int v3]) C (c_X5_beyondOf l D adr cs hN t v1 v2 _ h) hP hS (by omega) (fG_MO adr cs t) rfl (fgV mw_22_19 mw_22_20 mw_22_21 mw_1_5 mw_22_22) rfl rfl rfl (by decide +kernel) ⟨Nat.le_of_ble_eq_true rfl, Nat.le_of_ble_eq_true rfl⟩ rfl hl.1 rfl (Nat.le_of_ble_eq_true rfl) dX5_countOf_49) hS (fun r3 t2 H locs h hP hS => ?_)
      refine lv_iadd hx hb dX5_countOf_52 ?_
      exact fr_iret C hP hS h dX5_countOf_53
    · replace h := h.2 c9
      refine lv_iload_n hx hb dX5_countOf_21 rfl (lv_at hl 3 rfl) ?_
      refine lv_iconst (v := 1) hx hb dX5_countOf_22 (by decide) ?_
      refine lv_aload_n hx hb dX5_countOf_23 rfl (lv_at hl 0 rfl) ?_
      refine fr_get (j := 14) C hP (by omega) (fG_MO adr cs t) rfl (fun w h => List.mem_cons_of_mem _ (inl_X5 w h)) (by decide) rfl (List.mem_cons_of_mem _ mw_7_15) rfl dX5_countOf_24 ?_
      refine lv_aload_n hx hb dX5_countOf_27 rfl (lv_at hl 0 rfl) ?_
      refine lv_iload_n hx hb dX5_countOf_28 rfl (lv_at hl 1 rfl) ?_
      refine lv_iload_n hx hb dX5_countOf_29 rfl (lv_at hl 2 rfl) ?_
      refine lv_iload hx hb dX5_countOf_30 (lv_at hl 4 rfl) ?_
      refine fr_ci (fr_runV (n := 3) (rest := [.ref (adr 61), .int 1, .int v3]) C (c_X5_valueOf l D adr cs hN t v1 v2 v4 _ h) hP hS (by omega) (fG_MO adr cs t) rfl (fgV mw_21_12 mw_21_13 mw_21_14 mw_1_5 mw_21_15) rfl rfl rfl (by decide +kernel) ⟨Nat.le_of_ble_eq_true rfl, Nat.le_of_ble_eq_true rfl⟩ rfl hl.1 rfl (Nat.le_of_ble_eq_true rfl) dX5_countOf_32) hS (fun r5 t4 H locs h hP hS => ?_)
      refine fr_iald C hP (by omega) (fG_61 adr cs t4) h.1 dX5_countOf_35 ?_
      replace h := h.2
      refine lv_iadd hx hb dX5_countOf_36 ?_
      refine lv_iadd hx hb dX5_countOf_37 ?_
      refine lv_topi (fun x6 ex6 => ?_)
      replace h := h x6 ex6
      refine lv_istore_n (lv' := [(3, .int x6), (0, .ref (adr 53)), (1, .int v1), (2, .int v2), (4, .int v4)]) hx hb dX5_countOf_38 rfl hl (by decide) rfl (fun ls hl => ?_)
      obtain ⟨x7, ex7⟩ : ∃ y : Int32, y = v4 + 1 := ⟨_, rfl⟩
      replace h := h x7 ex7
      refine lv_iinc (v := x7) (lv' := [(4, .int x7), (3, .int x6), (0, .ref (adr 53)), (1, .int v1), (2, .int v2)]) hx hb dX5_countOf_39 hl (k := 4) rfl (by rw [ex7]; rfl) (by decide) rfl (fun ls hl => ?_)
      refine lv_goto (tgt := 10) hx hb dX5_countOf_42 (by decide) ?_
      exact ih v1 v2 x6 x7 t4 _ _ _ h hP hS (lv_sub hl [2, 3, 4, 1, 0] rfl)

set_option maxHeartbeats 4000000 in
set_option maxRecDepth 100000 in
theorem c_X5_countOf (l : Launch) (D : va_G) (adr : Nat → Nat) (cs : Nat → ClassId) {N : Nat} (hN : 67 ≤ N) (t : fcS) (a0 : Int32) (a1 : Int32) (post : Int32 → fcS → Prop) (h : q_X5_countOf t a0 a1 post) : Met l yX5_countOf wm_X5_countOf ({ frames := 5, cells := 0, slots := 0, locals := 120 } : Room) (fcPre D adr cs N t [.ref (adr 53), .int a0, .int a1]) (fQi D adr cs N post) 0 0 (faN adr N) := by
  refine f_enter (cc := cX5_countOf) (nL := 5) (ret := some .int) (lv := [(0, .ref (adr 53)), (1, .int a0), (2, .int a1)]) (own := RX5) (by decide) rfl (Nat.le_of_ble_eq_true rfl) rfl rfl ?_
  intro p e s m below meth c ls C hP hS hl
  have hx := C.1.1
  have hb := C.1.2.1
  unfold q_X5_countOf at h
  refine lv_aload_n hx hb dX5_countOf_0 rfl (lv_at hl 0 rfl) ?_
  refine lv_iload_n hx hb dX5_countOf_1 rfl (lv_at hl 2 rfl) ?_
  refine fr_cv (fr_runV (n := 1) (rest := []) C (c_X5_needSigns l D adr cs hN t a1 _ h) hP hS (by omega) (fG_MO adr cs t) rfl (fgV mw_9_13 mw_9_14 mw_9_15 mw_1_5 mw_9_16) rfl rfl rfl (by decide +kernel) ⟨Nat.le_of_ble_eq_true rfl, Nat.le_of_ble_eq_true rfl⟩ rfl hl.1 rfl (Nat.le_of_ble_eq_true rfl) dX5_countOf_2) hS (fun t1 H locs h hP hS => ?_)
  refine lv_iconst (v := 0) hx hb dX5_countOf_5 (by decide) ?_
  refine lv_istore_n (lv' := [(3, .int 0), (0, .ref (adr 53)), (1, .int a0), (2, .int a1)]) hx hb dX5_countOf_6 rfl hl (by decide) rfl (fun ls hl => ?_)
  refine lv_iconst (v := 0) hx hb dX5_countOf_7 (by decide) ?_
  refine lv_istore (lv' := [(4, .int 0), (3, .int 0), (0, .ref (adr 53)), (1, .int a0), (2, .int a1)]) hx hb dX5_countOf_8 hl (by decide) rfl (fun ls hl => ?_)
  obtain ⟨n9, h⟩ := h
  exact k_X5_countOf_10 hN C n9 a0 a1 0 0 t1 _ _ _ h hP hS (lv_sub hl [2, 3, 4, 1, 0] rfl)

/-! X5.count -/
abbrev wm_X5_count : List Cond := Cond.code yX5_count cX5_count 3 (some .int) :: wsL_law
def q_X5_count (t : fcS) (a0 : Int32) (a1 : Int32) (post : Int32 → fcS → Prop) : Prop := ∀ t1 : fcS, t1 = fsi t 53 0 0 → (q_X5_isCurve t1 a0 (fun (r3 : Int32) (t2 : fcS) => (r3 = 0 → (post ((-1)) t2)) ∧ (¬ r3 = 0 → (q_X5_isField t2 a1 (fun (r5 : Int32) (t4 : fcS) => (r5 = 0 → (post ((-1)) t4)) ∧ (¬ r5 = 0 → (q_X5_countOf t4 a0 a1 (fun (r7 : Int32) (t6 : fcS) => post r7 t6))))))))
set_option maxHeartbeats 4000000 in
set_option maxRecDepth 100000 in
theorem c_X5_count (l : Launch) (D : va_G) (adr : Nat → Nat) (cs : Nat → ClassId) {N : Nat} (hN : 67 ≤ N) (t : fcS) (a0 : Int32) (a1 : Int32) (post : Int32 → fcS → Prop) (h : q_X5_count t a0 a1 post) : Met l yX5_count wm_X5_count ({ frames := 6, cells := 0, slots := 0, locals := 144 } : Room) (fcPre D adr cs N t [.ref (adr 53), .int a0, .int a1]) (fQi D adr cs N post) 0 0 (faN adr N) := by
  refine f_enter (cc := cX5_count) (nL := 3) (ret := some .int) (lv := [(0, .ref (adr 53)), (1, .int a0), (2, .int a1)]) (own := RX5) (by decide) rfl (Nat.le_of_ble_eq_true rfl) rfl rfl ?_
  intro p e s m below meth c ls C hP hS hl
  have hx := C.1.1
  have hb := C.1.2.1
  unfold q_X5_count at h
  refine lv_aload_n hx hb dX5_count_0 rfl (lv_at hl 0 rfl) ?_
  refine lv_iconst (v := 0) hx hb dX5_count_1 (by decide) ?_
  refine fr_put C (fsi t 53 0 0) (j := 0) (ty := .int) hP hS (by omega) (fG_MO adr cs t) rfl (fun w h => List.mem_cons_of_mem _ (inl_X5 w h)) tyX5_ok nmX5 (by decide) rfl (List.mem_cons_of_mem _ mw_10_14) rfl (by decide +kernel) rfl rfl (Nat.le_of_ble_eq_true rfl) (fS_MO_0 adr cs t 0) (fG_fsi_ne adr cs t 53 0 0) dX5_count_2 (fun H locs hP hS => ?_)
  obtain ⟨t1, et1⟩ : ∃ y : fcS, y = fsi t 53 0 0 := ⟨_, rfl⟩
  rw [← et1] at hP
  replace h := h t1 et1
  refine lv_aload_n hx hb dX5_count_5 rfl (lv_at hl 0 rfl) ?_
  refine lv_iload_n hx hb dX5_count_6 rfl (lv_at hl 1 rfl) ?_
  refine fr_ci (fr_runV (n := 1) (rest := []) C (c_X5_isCurve l D adr cs hN t1 a0 _ h) hP hS (by omega) (fG_MO adr cs t1) rfl (fgV mw_19_23 mw_20_0 mw_20_1 mw_1_5 mw_20_2) rfl rfl rfl (by decide +kernel) ⟨Nat.le_of_ble_eq_true rfl, Nat.le_of_ble_eq_true rfl⟩ rfl hl.1 rfl (Nat.le_of_ble_eq_true rfl) dX5_count_7) hS (fun r3 t2 H locs h hP hS => ?_)
  refine lv_if_eq (tgt := 30) hx hb dX5_count_10 (by decide) (fun c9 => ?_) (fun c9 => ?_)
  · replace h := h.1 c9
    refine lv_iconst (v := (-1)) hx hb dX5_count_30 (by decide) ?_
    exact fr_iret C hP hS h dX5_count_31
  · replace h := h.2 c9
    refine lv_aload_n hx hb dX5_count_13 rfl (lv_at hl 0 rfl) ?_
    refine lv_iload_n hx hb dX5_count_14 rfl (lv_at hl 2 rfl) ?_
    refine fr_ci (fr_runV (n := 1) (rest := []) C (c_X5_isField l D adr cs hN t2 a1 _ h) hP hS (by omega) (fG_MO adr cs t2) rfl (fgV mw_10_23 mw_11_0 mw_11_1 mw_1_5 mw_11_2) rfl rfl rfl (by decide +kernel) ⟨Nat.le_of_ble_eq_true rfl, Nat.le_of_ble_eq_true rfl⟩ rfl hl.1 rfl (Nat.le_of_ble_eq_true rfl) dX5_count_15) hS (fun r5 t4 H locs h hP hS => ?_)
    refine lv_if_eq (tgt := 30) hx hb dX5_count_18 (by decide) (fun c9 => ?_) (fun c9 => ?_)
    · replace h := h.1 c9
      refine lv_iconst (v := (-1)) hx hb dX5_count_30 (by decide) ?_
      exact fr_iret C hP hS h dX5_count_31
    · replace h := h.2 c9
      refine lv_aload_n hx hb dX5_count_21 rfl (lv_at hl 0 rfl) ?_
      refine lv_iload_n hx hb dX5_count_22 rfl (lv_at hl 1 rfl) ?_
      refine lv_iload_n hx hb dX5_count_23 rfl (lv_at hl 2 rfl) ?_
      refine fr_ci (fr_runV (n := 2) (rest := []) C (c_X5_countOf l D adr cs hN t4 a0 a1 _ h) hP hS (by omega) (fG_MO adr cs t4) rfl (fgV mw_22_15 mw_22_16 mw_22_17 mw_1_5 mw_22_18) rfl rfl rfl (by decide +kernel) ⟨Nat.le_of_ble_eq_true rfl, Nat.le_of_ble_eq_true rfl⟩ rfl hl.1 rfl (Nat.le_of_ble_eq_true rfl) dX5_count_24) hS (fun r7 t6 H locs h hP hS => ?_)
      refine lv_goto (tgt := 31) hx hb dX5_count_27 (by decide) ?_
      exact fr_iret C hP hS h dX5_count_31

/-! X5.beyond -/
abbrev wm_X5_beyond : List Cond := Cond.code yX5_beyond cX5_beyond 3 (some .int) :: wsL_law
def q_X5_beyond (t : fcS) (a0 : Int32) (a1 : Int32) (post : Int32 → fcS → Prop) : Prop := ∀ t1 : fcS, t1 = fsi t 53 0 0 → (q_X5_isCurve t1 a0 (fun (r3 : Int32) (t2 : fcS) => (r3 = 0 → (post ((-1)) t2)) ∧ (¬ r3 = 0 → (q_X5_isField t2 a1 (fun (r5 : Int32) (t4 : fcS) => (r5 = 0 → (post ((-1)) t4)) ∧ (¬ r5 = 0 → (q_X5_beyondOf t4 a0 a1 (fun (r7 : Int32) (t6 : fcS) => post r7 t6))))))))
set_option maxHeartbeats 4000000 in
set_option maxRecDepth 100000 in
theorem c_X5_beyond (l : Launch) (D : va_G) (adr : Nat → Nat) (cs : Nat → ClassId) {N : Nat} (hN : 67 ≤ N) (t : fcS) (a0 : Int32) (a1 : Int32) (post : Int32 → fcS → Prop) (h : q_X5_beyond t a0 a1 post) : Met l yX5_beyond wm_X5_beyond ({ frames := 5, cells := 0, slots := 0, locals := 120 } : Room) (fcPre D adr cs N t [.ref (adr 53), .int a0, .int a1]) (fQi D adr cs N post) 0 0 (faN adr N) := by
  refine f_enter (cc := cX5_beyond) (nL := 3) (ret := some .int) (lv := [(0, .ref (adr 53)), (1, .int a0), (2, .int a1)]) (own := RX5) (by decide) rfl (Nat.le_of_ble_eq_true rfl) rfl rfl ?_
  intro p e s m below meth c ls C hP hS hl
  have hx := C.1.1
  have hb := C.1.2.1
  unfold q_X5_beyond at h
  refine lv_aload_n hx hb dX5_beyond_0 rfl (lv_at hl 0 rfl) ?_
  refine lv_iconst (v := 0) hx hb dX5_beyond_1 (by decide) ?_
  refine fr_put C (fsi t 53 0 0) (j := 0) (ty := .int) hP hS (by omega) (fG_MO adr cs t) rfl (fun w h => List.mem_cons_of_mem _ (inl_X5 w h)) tyX5_ok nmX5 (by decide) rfl (List.mem_cons_of_mem _ mw_10_14) rfl (by decide +kernel) rfl rfl (Nat.le_of_ble_eq_true rfl) (fS_MO_0 adr cs t 0) (fG_fsi_ne adr cs t 53 0 0) dX5_beyond_2 (fun H locs hP hS => ?_)
  obtain ⟨t1, et1⟩ : ∃ y : fcS, y = fsi t 53 0 0 := ⟨_, rfl⟩
  rw [← et1] at hP
  replace h := h t1 et1
  refine lv_aload_n hx hb dX5_beyond_5 rfl (lv_at hl 0 rfl) ?_
  refine lv_iload_n hx hb dX5_beyond_6 rfl (lv_at hl 1 rfl) ?_
  refine fr_ci (fr_runV (n := 1) (rest := []) C (c_X5_isCurve l D adr cs hN t1 a0 _ h) hP hS (by omega) (fG_MO adr cs t1) rfl (fgV mw_19_23 mw_20_0 mw_20_1 mw_1_5 mw_20_2) rfl rfl rfl (by decide +kernel) ⟨Nat.le_of_ble_eq_true rfl, Nat.le_of_ble_eq_true rfl⟩ rfl hl.1 rfl (Nat.le_of_ble_eq_true rfl) dX5_beyond_7) hS (fun r3 t2 H locs h hP hS => ?_)
  refine lv_if_eq (tgt := 30) hx hb dX5_beyond_10 (by decide) (fun c9 => ?_) (fun c9 => ?_)
  · replace h := h.1 c9
    refine lv_iconst (v := (-1)) hx hb dX5_beyond_30 (by decide) ?_
    exact fr_iret C hP hS h dX5_beyond_31
  · replace h := h.2 c9
    refine lv_aload_n hx hb dX5_beyond_13 rfl (lv_at hl 0 rfl) ?_
    refine lv_iload_n hx hb dX5_beyond_14 rfl (lv_at hl 2 rfl) ?_
    refine fr_ci (fr_runV (n := 1) (rest := []) C (c_X5_isField l D adr cs hN t2 a1 _ h) hP hS (by omega) (fG_MO adr cs t2) rfl (fgV mw_10_23 mw_11_0 mw_11_1 mw_1_5 mw_11_2) rfl rfl rfl (by decide +kernel) ⟨Nat.le_of_ble_eq_true rfl, Nat.le_of_ble_eq_true rfl⟩ rfl hl.1 rfl (Nat.le_of_ble_eq_true rfl) dX5_beyond_15) hS (fun r5 t4 H locs h hP hS => ?_)
    refine lv_if_eq (tgt := 30) hx hb dX5_beyond_18 (by decide) (fun c9 => ?_) (fun c9 => ?_)
    · replace h := h.1 c9
      refine lv_iconst (v := (-1)) hx hb dX5_beyond_30 (by decide) ?_
      exact fr_iret C hP hS h dX5_beyond_31
    · replace h := h.2 c9
      refine lv_aload_n hx hb dX5_beyond_21 rfl (lv_at hl 0 rfl) ?_
      refine lv_iload_n hx hb dX5_beyond_22 rfl (lv_at hl 1 rfl) ?_
      refine lv_iload_n hx hb dX5_beyond_23 rfl (lv_at hl 2 rfl) ?_
      refine fr_ci (fr_runV (n := 2) (rest := []) C (c_X5_beyondOf l D adr cs hN t4 a0 a1 _ h) hP hS (by omega) (fG_MO adr cs t4) rfl (fgV mw_22_19 mw_22_20 mw_22_21 mw_1_5 mw_22_22) rfl rfl rfl (by decide +kernel) ⟨Nat.le_of_ble_eq_true rfl, Nat.le_of_ble_eq_true rfl⟩ rfl hl.1 rfl (Nat.le_of_ble_eq_true rfl) dX5_beyond_24) hS (fun r7 t6 H locs h hP hS => ?_)
      refine lv_goto (tgt := 31) hx hb dX5_beyond_27 (by decide) ?_
      exact fr_iret C hP hS h dX5_beyond_31

/-! X5.needShares -/
abbrev wm_X5_needShares : List Cond := Cond.code yX5_needShares cX5_needShares 3 none :: wsL_law
def q_X5_needShares (t : fcS) (a0 : Int32) (post : fcS → Prop) : Prop := q_X5_genusOf t a0 (fun (r2 : Int32) (t1 : fcS) => (vp_in 0 5) ∧ (∀ t3 : fcS, t3 = fsa t1 65 (Int32.toNatClampNeg 0) 1 → (q_X5_countOf t3 a0 1 (fun (r5 : Int32) (t4 : fcS) => (vp_in 1 5) ∧ (∀ t6 : fcS, t6 = fsa t4 65 (Int32.toNatClampNeg 1) (((r5 - (fgi t4 53 1)) - 1)) → ((¬ r2 = 1 → (q_X5_countOf t6 a0 2 (fun (r8 : Int32) (t7 : fcS) => (vp_in 1 5) ∧ ((vp_in 1 5) ∧ ((¬ (2 : Int32) = 0) ∧ ((vp_in 2 5) ∧ (∀ t9 : fcS, t9 = fsa t7 65 (Int32.toNatClampNeg 2) (((((r8 - ((fgi t7 53 1) * (fgi t7 53 1))) - 1) + ((fga t7 65 (Int32.toNatClampNeg 1)) * (fga t7 65 (Int32.toNatClampNeg 1)))) / 2)) → ((vp_in 1 5) ∧ ((vp_in 3 5) ∧ (∀ t10 : fcS, t10 = fsa t9 65 (Int32.toNatClampNeg 3) (((fgi t9 53 1) * (fga t9 65 (Int32.toNatClampNeg 1)))) → ((vp_in 4 5) ∧ (∀ t11 : fcS, t11 = fsa t10 65 (Int32.toNatClampNeg 4) (((fgi t10 53 1) * (fgi t10 53 1))) → (post t11))))))))))))) ∧ (r2 = 1 → ((vp_in 2 5) ∧ (∀ t12 : fcS, t12 = fsa t6 65 (Int32.toNatClampNeg 2) ((fgi t6 53 1)) → ((vp_in 3 5) ∧ (∀ t13 : fcS, t13 = fsa t12 65 (Int32.toNatClampNeg 3) 0 → ((vp_in 4 5) ∧ (∀ t14 : fcS, t14 = fsa t13 65 (Int32.toNatClampNeg 4) 0 → (post t14))))))))))))))
set_option maxHeartbeats 4000000 in
set_option maxRecDepth 100000 in
theorem c_X5_needShares (l : Launch) (D : va_G) (adr : Nat → Nat) (cs : Nat → ClassId) {N : Nat} (hN : 67 ≤ N) (t : fcS) (a0 : Int32) (post : fcS → Prop) (h : q_X5_needShares t a0 post) : Met l yX5_needShares wm_X5_needShares ({ frames := 6, cells := 0, slots := 0, locals := 144 } : Room) (fcPre D adr cs N t [.ref (adr 53), .int a0]) (fQv D adr cs N post) 0 0 (faN adr N) := by
  refine f_enter (cc := cX5_needShares) (nL := 3) (ret := none) (lv := [(0, .ref (adr 53)), (1, .int a0)]) (own := RX5) (by decide) rfl (Nat.le_of_ble_eq_true rfl) rfl rfl ?_
  intro p e s m below meth c ls C hP hS hl
  have hx := C.1.1
  have hb := C.1.2.1
  unfold q_X5_needShares at h
  refine lv_aload_n hx hb dX5_needShares_0 rfl (lv_at hl 0 rfl) ?_
  refine lv_iload_n hx hb dX5_needShares_1 rfl (lv_at hl 1 rfl) ?_
  refine fr_ci (fr_runV (n := 1) (rest := []) C (c_X5_genusOf l D adr cs hN t a0 _ h) hP hS (by omega) (fG_MO adr cs t) rfl (fgV mw_20_7 mw_20_8 mw_20_9 mw_1_5 mw_20_10) rfl rfl rfl (by decide +kernel) ⟨Nat.le_of_ble_eq_true rfl, Nat.le_of_ble_eq_true rfl⟩ rfl hl.1 rfl (Nat.le_of_ble_eq_true rfl) dX5_needShares_2) hS (fun r2 t1 H locs h hP hS => ?_)
  refine lv_istore_n (lv' := [(2, .int r2), (0, .ref (adr 53)), (1, .int a0)]) hx hb dX5_needShares_5 rfl hl (by decide) rfl (fun ls hl => ?_)
  refine lv_aload_n hx hb dX5_needShares_6 rfl (lv_at hl 1 rfl) ?_
  refine fr_get (j := 21) C hP (by omega) (fG_MO adr cs t1) rfl (fun w h => List.mem_cons_of_mem _ (inl_X5 w h)) (by decide) rfl (List.mem_cons_of_mem _ mw_7_20) rfl dX5_needShares_7 ?_
  refine lv_iconst (v := 0) hx hb dX5_needShares_10 (by decide) ?_
  refine lv_iconst (v := 1) hx hb dX5_needShares_11 (by decide) ?_
  refine fr_iast C hP hS (by omega) (fun u => (fG_65 adr cs u)) h.1 dX5_needShares_12 (fun H locs hP hS => ?_)
  obtain ⟨t3, et3⟩ : ∃ y : fcS, y = fsa t1 65 (Int32.toNatClampNeg 0) 1 := ⟨_, rfl⟩
  rw [← et3] at hP
  replace h := h.2 t3 et3
  refine lv_aload_n hx hb dX5_needShares_13 rfl (lv_at hl 1 rfl) ?_
  refine fr_get (j := 21) C hP (by omega) (fG_MO adr cs t3) rfl (fun w h => List.mem_cons_of_mem _ (inl_X5 w h)) (by decide) rfl (List.mem_cons_of_mem _ mw_7_20) rfl dX5_needShares_14 ?_
  refine lv_iconst (v := 1) hx hb dX5_needShares_17 (by decide) ?_
  refine lv_aload_n hx hb dX5_needShares_18 rfl (lv_at hl 1 rfl) ?_
  refine lv_iload_n hx hb dX5_needShares_19 rfl (lv_at hl 2 rfl) ?_
  refine lv_iconst (v := 1) hx hb dX5_needShares_20 (by decide) ?_
  refine fr_ci (fr_runV (n := 2) (rest := [.int 1, .ref (adr 65)]) C (c_X5_countOf l D adr cs hN t3 a0 1 _ h) hP hS (by omega) (fG_MO adr cs t3) rfl (fgV mw_22_15 mw_22_16 mw_22_17 mw_1_5 mw_22_18) rfl rfl rfl (by decide +kernel) ⟨Nat.le_of_ble_eq_true rfl, Nat.le_of_ble_eq_true rfl⟩ rfl hl.1 rfl (Nat.le_of_ble_eq_true rfl) dX5_needShares_21) hS (fun r5 t4 H locs h hP hS => ?_)
  refine lv_aload_n hx hb dX5_needShares_24 rfl (lv_at hl 1 rfl) ?_
  refine fr_get (j := 1) C hP (by omega) (fG_MO adr cs t4) rfl (fun w h => List.mem_cons_of_mem _ (inl_X5 w h)) (by decide) rfl (List.mem_cons_of_mem _ mw_7_5) rfl dX5_needShares_25 ?_
  refine lv_isub hx hb dX5_needShares_28 ?_
  refine lv_iconst (v := 1) hx hb dX5_needShares_29 (by decide) ?_
  refine lv_isub hx hb dX5_needShares_30 ?_
  refine fr_iast C hP hS (by omega) (fun u => (fG_65 adr cs u)) h.1 dX5_needShares_31 (fun H locs hP hS => ?_)
  obtain ⟨t6, et6⟩ : ∃ y : fcS, y = fsa t4 65 (Int32.toNatClampNeg 1) (((r5 - (fgi t4 53 1)) - 1)) := ⟨_, rfl⟩
  rw [← et6] at hP
  replace h := h.2 t6 et6
  refine lv_iload_n hx hb dX5_needShares_32 rfl (lv_at hl 0 rfl) ?_
  refine lv_iconst (v := 1) hx hb dX5_needShares_33 (by decide) ?_
  refine lv_icmp_ne (tgt := 64) hx hb dX5_needShares_34 (by decide) (fun c9 => ?_) (fun c9 => ?_)
  · replace h := h.1 c9
    refine lv_aload_n hx hb dX5_needShares_64 rfl (lv_at hl 1 rfl) ?_
    refine fr_get (j := 21) C hP (by omega) (fG_MO adr cs t6) rfl (fun w h => List.mem_cons_of_mem _ (inl_X5 w h)) (by decide) rfl (List.mem_cons_of_mem _ mw_7_20) rfl dX5_needShares_65 ?_
    refine lv_iconst (v := 2) hx hb dX5_needShares_68 (by decide) ?_
    refine lv_aload_n hx hb dX5_needShares_69 rfl (lv_at hl 1 rfl) ?_
    refine lv_iload_n hx hb dX5_needShares_70 rfl (lv_at hl 2 rfl) ?_
    refine lv_iconst (v := 2) hx hb dX5_needShares_71 (by decide) ?_
    refine fr_ci (fr_runV (n := 2) (rest := [.int 2, .ref (adr 65)]) C (c_X5_countOf l D adr cs hN t6 a0 2 _ h) hP hS (by omega) (fG_MO adr cs t6) rfl (fgV mw_22_15 mw_22_16 mw_22_17 mw_1_5 mw_22_18) rfl rfl rfl (by decide +kernel) ⟨Nat.le_of_ble_eq_true rfl, Nat.le_of_ble_eq_true rfl⟩ rfl hl.1 rfl (Nat.le_of_ble_eq_true rfl) dX5_needShares_72) hS (fun r8 t7 H locs h hP hS => ?_)
    refine lv_aload_n hx hb dX5_needShares_75 rfl (lv_at hl 1 rfl) ?_
    refine fr_get (j := 1) C hP (by omega) (fG_MO adr cs t7) rfl (fun w h => List.mem_cons_of_mem _ (inl_X5 w h)) (by decide) rfl (List.mem_cons_of_mem _ mw_7_5) rfl dX5_needShares_76 ?_
    refine lv_aload_n hx hb dX5_needShares_79 rfl (lv_at hl 1 rfl) ?_
    refine fr_get (j := 1) C hP (by omega) (fG_MO adr cs t7) rfl (fun w h => List.mem_cons_of_mem _ (inl_X5 w h)) (by decide) rfl (List.mem_cons_of_mem _ mw_7_5) rfl dX5_needShares_80 ?_
    refine lv_imul hx hb dX5_needShares_83 ?_
    refine lv_isub hx hb dX5_needShares_84 ?_
    refine lv_iconst (v := 1) hx hb dX5_needShares_85 (by decide) ?_
    refine lv_isub hx hb dX5_needShares_86 ?_
    refine lv_aload_n hx hb dX5_needShares_87 rfl (lv_at hl 1 rfl) ?_
    refine fr_get (j := 21) C hP (by omega) (fG_MO adr cs t7) rfl (fun w h => List.mem_cons_of_mem _ (inl_X5 w h)) (by decide) rfl (List.mem_cons_of_mem _ mw_7_20) rfl dX5_needShares_88 ?_
    refine lv_iconst (v := 1) hx hb dX5_needShares_91 (by decide) ?_
    refine fr_iald C hP (by omega) (fG_65 adr cs t7) h.1 dX5_needShares_92 ?_
    replace h := h.2
    refine lv_aload_n hx hb dX5_needShares_93 rfl (lv_at hl 1 rfl) ?_
    refine fr_get (j := 21) C hP (by omega) (fG_MO adr cs t7) rfl (fun w h => List.mem_cons_of_mem _ (inl_X5 w h)) (by decide) rfl (List.mem_cons_of_mem _ mw_7_20) rfl dX5_needShares_94 ?_
    refine lv_iconst (v := 1) hx hb dX5_needShares_97 (by decide) ?_
    refine fr_iald C hP (by omega) (fG_65 adr cs t7) h.1 dX5_needShares_98 ?_
    replace h := h.2
    refine lv_imul hx hb dX5_needShares_99 ?_
    refine lv_iadd hx hb dX5_needShares_100 ?_
    refine lv_iconst (v := 2) hx hb dX5_needShares_101 (by decide) ?_
    refine lv_idiv hx hb dX5_needShares_102 h.1 ?_
    replace h := h.2
    refine fr_iast C hP hS (by omega) (fun u => (fG_65 adr cs u)) h.1 dX5_needShares_103 (fun H locs hP hS => ?_)
    obtain ⟨t9, et9⟩ : ∃ y : fcS, y = fsa t7 65 (Int32.toNatClampNeg 2) (((((r8 - ((fgi t7 53 1) * (fgi t7 53 1))) - 1) + ((fga t7 65 (Int32.toNatClampNeg 1)) * (fga t7 65 (Int32.toNatClampNeg 1)))) / 2)) := ⟨_, rfl⟩
    rw [← et9] at hP
    replace h := h.2 t9 et9
    refine lv_aload_n hx hb dX5_needShares_104 rfl (lv_at hl 1 rfl) ?_
    refine fr_get (j := 21) C hP (by omega) (fG_MO adr cs t9) rfl (fun w h => List.mem_cons_of_mem _ (inl_X5 w h)) (by decide) rfl (List.mem_cons_of_mem _ mw_7_20) rfl dX5_needShares_105 ?_
    refine lv_iconst (v := 3) hx hb dX5_needShares_108 (by decide) ?_
    refine lv_aload_n hx hb dX5_needShares_109 rfl (lv_at hl 1 rfl) ?_
    refine fr_get (j := 1) C hP (by omega) (fG_MO adr cs t9) rfl (fun w h => List.mem_cons_of_mem _ (inl_X5 w h)) (by decide) rfl (List.mem_cons_of_mem _ mw_7_5) rfl dX5_needShares_110 ?_
    refine lv_aload_n hx hb dX5_needShares_113 rfl (lv_at hl 1 rfl) ?_
    refine fr_get (j := 21) C hP (by omega) (fG_MO adr cs t9) rfl (fun w h => List.mem_cons_of_mem _ (inl_X5 w h)) (by decide) rfl (List.mem_cons_of_mem _ mw_7_20) rfl dX5_needShares_114 ?_
    refine lv_iconst (v := 1) hx hb dX5_needShares_117 (by decide) ?_
    refine fr_iald C hP (by omega) (fG_65 adr cs t9) h.1 dX5_needShares_118 ?_
    replace h := h.2
    refine lv_imul hx hb dX5_needShares_119 ?_
    refine fr_iast C hP hS (by omega) (fun u => (fG_65 adr cs u)) h.1 dX5_needShares_120 (fun H locs hP hS => ?_)
    obtain ⟨t10, et10⟩ : ∃ y : fcS, y = fsa t9 65 (Int32.toNatClampNeg 3) (((fgi t9 53 1) * (fga t9 65 (Int32.toNatClampNeg 1)))) := ⟨_, rfl⟩
    rw [← et10] at hP
    replace h := h.2 t10 et10
    refine lv_aload_n hx hb dX5_needShares_121 rfl (lv_at hl 1 rfl) ?_
    refine fr_get (j := 21) C hP (by omega) (fG_MO adr cs t10) rfl (fun w h => List.mem_cons_of_mem _ (inl_X5 w h)) (by decide) rfl (List.mem_cons_of_mem _ mw_7_20) rfl dX5_needShares_122 ?_
    refine lv_iconst (v := 4) hx hb dX5_needShares_125 (by decide) ?_
    refine lv_aload_n hx hb dX5_needShares_126 rfl (lv_at hl 1 rfl) ?_
    refine fr_get (j := 1) C hP (by omega) (fG_MO adr cs t10) rfl (fun w h => List.mem_cons_of_mem _ (inl_X5 w h)) (by decide) rfl (List.mem_cons_of_mem _ mw_7_5) rfl dX5_needShares_127 ?_
    refine lv_aload_n hx hb dX5_needShares_130 rfl (lv_at hl 1 rfl) ?_
    refine fr_get (j := 1) C hP (by omega) (fG_MO adr cs t10) rfl (fun w h => List.mem_cons_of_mem _ (inl_X5 w h)) (by decide) rfl (List.mem_cons_of_mem _ mw_7_5) rfl dX5_needShares_131 ?_
    refine lv_imul hx hb dX5_needShares_134 ?_
    refine fr_iast C hP hS (by omega) (fun u => (fG_65 adr cs u)) h.1 dX5_needShares_135 (fun H locs hP hS => ?_)
    obtain ⟨t11, et11⟩ : ∃ y : fcS, y = fsa t10 65 (Int32.toNatClampNeg 4) (((fgi t10 53 1) * (fgi t10 53 1))) := ⟨_, rfl⟩
    rw [← et11] at hP
    replace h := h.2 t11 et11
    exact fr_vret C hP hS h dX5_needShares_136
  · replace h := h.2 c9
    refine lv_aload_n hx hb dX5_needShares_37 rfl (lv_at hl 1 rfl) ?_
    refine fr_get (j := 21) C hP (by omega) (fG_MO adr cs t6) rfl (fun w h => List.mem_cons_of_mem _ (inl_X5 w h)) (by decide) rfl (List.mem_cons_of_mem _ mw_7_20) rfl dX5_needShares_38 ?_
    refine lv_iconst (v := 2) hx hb dX5_needShares_41 (by decide) ?_
    refine lv_aload_n hx hb dX5_needShares_42 rfl (lv_at hl 1 rfl) ?_
    refine fr_get (j := 1) C hP (by omega) (fG_MO adr cs t6) rfl (fun w h => List.mem_cons_of_mem _ (inl_X5 w h)) (by decide) rfl (List.mem_cons_of_mem _ mw_7_5) rfl dX5_needShares_43 ?_
    refine fr_iast C hP hS (by omega) (fun u => (fG_65 adr cs u)) h.1 dX5_needShares_46 (fun H locs hP hS => ?_)
    obtain ⟨t12, et12⟩ : ∃ y : fcS, y = fsa t6 65 (Int32.toNatClampNeg 2) ((fgi t6 53 1)) := ⟨_, rfl⟩
    rw [← et12] at hP
    replace h := h.2 t12 et12
    refine lv_aload_n hx hb dX5_needShares_47 rfl (lv_at hl 1 rfl) ?_
    refine fr_get (j := 21) C hP (by omega) (fG_MO adr cs t12) rfl (fun w h => List.mem_cons_of_mem _ (inl_X5 w h)) (by decide) rfl (List.mem_cons_of_mem _ mw_7_20) rfl dX5_needShares_48 ?_
    refine lv_iconst (v := 3) hx hb dX5_needShares_51 (by decide) ?_
    refine lv_iconst (v := 0) hx hb dX5_needShares_52 (by decide) ?_
    refine fr_iast C hP hS (by omega) (fun u => (fG_65 adr cs u)) h.1 dX5_needShares_53 (fun H locs hP hS => ?_)
    obtain ⟨t13, et13⟩ : ∃ y : fcS, y = fsa t12 65 (Int32.toNatClampNeg 3) 0 := ⟨_, rfl⟩
    rw [← et13] at hP
    replace h := h.2 t13 et13
    refine lv_aload_n hx hb dX5_needShares_54 rfl (lv_at hl 1 rfl) ?_
    refine fr_get (j := 21) C hP (by omega) (fG_MO adr cs t13) rfl (fun w h => List.mem_cons_of_mem _ (inl_X5 w h)) (by decide) rfl (List.mem_cons_of_mem _ mw_7_20) rfl dX5_needShares_55 ?_
    refine lv_iconst (v := 4) hx hb dX5_needShares_58 (by decide) ?_
    refine lv_iconst (v := 0) hx hb dX5_needShares_59 (by decide) ?_
    refine fr_iast C hP hS (by omega) (fun u => (fG_65 adr cs u)) h.1 dX5_needShares_60 (fun H locs hP hS => ?_)
    obtain ⟨t14, et14⟩ : ∃ y : fcS, y = fsa t13 65 (Int32.toNatClampNeg 4) 0 := ⟨_, rfl⟩
    rw [← et14] at hP
    replace h := h.2 t14 et14
    refine lv_goto (tgt := 136) hx hb dX5_needShares_61 (by decide) ?_
    exact fr_vret C hP hS h dX5_needShares_136

/-! X5.share -/
abbrev wm_X5_share : List Cond := Cond.code yX5_share cX5_share 3 (some .int) :: wsL_law
def q_X5_share (t : fcS) (a0 : Int32) (a1 : Int32) (post : Int32 → fcS → Prop) : Prop := ∀ t1 : fcS, t1 = fsi t 53 0 0 → (q_X5_isCurve t1 a0 (fun (r3 : Int32) (t2 : fcS) => (r3 = 0 → (post ((-1000000000)) t2)) ∧ (¬ r3 = 0 → (q_X5_genusOf t2 a0 (fun (r5 : Int32) (t4 : fcS) => q_X5_in t4 ((Int32.toInt64 a1)) 0 ((Int32.toInt64 ((2 * r5)))) (fun (r7 : Int32) (t6 : fcS) => (¬ r7 = 0 → (q_X5_needShares t6 a0 (fun (t8 : fcS) => (vp_in a1 5) ∧ (post ((fga t8 65 (Int32.toNatClampNeg a1))) t8)))) ∧ (r7 = 0 → (post ((-1000000000)) t6))))))))
set_option maxHeartbeats 4000000 in
set_option maxRecDepth 100000 in
theorem c_X5_share (l : Launch) (D : va_G) (adr : Nat → Nat) (cs : Nat → ClassId) {N : Nat} (hN : 67 ≤ N) (t : fcS) (a0 : Int32) (a1 : Int32) (post : Int32 → fcS → Prop) (h : q_X5_share t a0 a1 post) : Met l yX5_share wm_X5_share ({ frames := 7, cells := 0, slots := 0, locals := 166 } : Room) (fcPre D adr cs N t [.ref (adr 53), .int a0, .int a1]) (fQi D adr cs N post) 0 0 (faN adr N) := by
  refine f_enter (cc := cX5_share) (nL := 3) (ret := some .int) (lv := [(0, .ref (adr 53)), (1, .int a0), (2, .int a1)]) (own := RX5) (by decide) rfl (Nat.le_of_ble_eq_true rfl) rfl rfl ?_
  intro p e s m below meth c ls C hP hS hl
  have hx := C.1.1
  have hb := C.1.2.1
  unfold q_X5_share at h
  refine lv_aload_n hx hb dX5_share_0 rfl (lv_at hl 0 rfl) ?_
  refine lv_iconst (v := 0) hx hb dX5_share_1 (by decide) ?_
  refine fr_put C (fsi t 53 0 0) (j := 0) (ty := .int) hP hS (by omega) (fG_MO adr cs t) rfl (fun w h => List.mem_cons_of_mem _ (inl_X5 w h)) tyX5_ok nmX5 (by decide) rfl (List.mem_cons_of_mem _ mw_10_14) rfl (by decide +kernel) rfl rfl (Nat.le_of_ble_eq_true rfl) (fS_MO_0 adr cs t 0) (fG_fsi_ne adr cs t 53 0 0) dX5_share_2 (fun H locs hP hS => ?_)
  obtain ⟨t1, et1⟩ : ∃ y : fcS, y = fsi t 53 0 0 := ⟨_, rfl⟩
  rw [← et1] at hP
  replace h := h t1 et1
  refine lv_aload_n hx hb dX5_share_5 rfl (lv_at hl 0 rfl) ?_
  refine lv_iload_n hx hb dX5_share_6 rfl (lv_at hl 1 rfl) ?_
  refine fr_ci (fr_runV (n := 1) (rest := []) C (c_X5_isCurve l D adr cs hN t1 a0 _ h) hP hS (by omega) (fG_MO adr cs t1) rfl (fgV mw_19_23 mw_20_0 mw_20_1 mw_1_5 mw_20_2) rfl rfl rfl (by decide +kernel) ⟨Nat.le_of_ble_eq_true rfl, Nat.le_of_ble_eq_true rfl⟩ rfl hl.1 rfl (Nat.le_of_ble_eq_true rfl) dX5_share_7) hS (fun r3 t2 H locs h hP hS => ?_)
  refine lv_if_eq (tgt := 30) hx hb dX5_share_10 (by decide) (fun c9 => ?_) (fun c9 => ?_)
  · replace h := h.1 c9
    refine lv_ldc hx hb (v := (-1000000000)) C.1.2.2.2.1 (C.1.2.2.2.2 _ (List.mem_cons_of_mem _ mw_14_8)) dX5_share_30 ?_
    exact fr_iret C hP hS h dX5_share_32
  · replace h := h.2 c9
    refine lv_iload_n hx hb dX5_share_13 rfl (lv_at hl 2 rfl) ?_
    refine lv_i2l hx hb dX5_share_14 rfl ?_
    refine lv_lconst (v := 0) hx hb dX5_share_15 (by decide) ?_
    refine lv_iconst (v := 2) hx hb dX5_share_16 (by decide) ?_
    refine lv_aload_n hx hb dX5_share_17 rfl (lv_at hl 0 rfl) ?_
    refine lv_iload_n hx hb dX5_share_18 rfl (lv_at hl 1 rfl) ?_
    refine fr_ci (fr_runV (n := 1) (rest := [.int 2, .long 0, .long ((Int32.toInt64 a1))]) C (c_X5_genusOf l D adr cs hN t2 a0 _ h) hP hS (by omega) (fG_MO adr cs t2) rfl (fgV mw_20_7 mw_20_8 mw_20_9 mw_1_5 mw_20_10) rfl rfl rfl (by decide +kernel) ⟨Nat.le_of_ble_eq_true rfl, Nat.le_of_ble_eq_true rfl⟩ rfl hl.1 rfl (Nat.le_of_ble_eq_true rfl) dX5_share_19) hS (fun r5 t4 H locs h hP hS => ?_)
    refine lv_imul hx hb dX5_share_22 ?_
    refine lv_i2l hx hb dX5_share_23 rfl ?_
    refine fr_ci (fr_runS (n := 3) (rest := []) C (c_X5_in l D adr cs hN t4 ((Int32.toInt64 a1)) 0 ((Int32.toInt64 ((2 * r5)))) _ h) hP hS (fgS mw_11_3 mw_11_4 mw_1_5 mw_11_5) rfl rfl rfl (by decide +kernel) ⟨Nat.le_of_ble_eq_true rfl, Nat.le_of_ble_eq_true rfl⟩ rfl hl.1 rfl (Nat.le_of_ble_eq_true rfl) dX5_share_24) hS (fun r7 t6 H locs h hP hS => ?_)
    refine lv_if_ne (tgt := 33) hx hb dX5_share_27 (by decide) (fun c9 => ?_) (fun c9 => ?_)
    · replace h := h.1 c9
      refine lv_aload_n hx hb dX5_share_33 rfl (lv_at hl 0 rfl) ?_
      refine lv_iload_n hx hb dX5_share_34 rfl (lv_at hl 1 rfl) ?_
      refine fr_cv (fr_runV (n := 1) (rest := []) C (c_X5_needShares l D adr cs hN t6 a0 _ h) hP hS (by omega) (fG_MO adr cs t6) rfl (fgV mw_24_3 mw_24_4 mw_24_5 mw_1_5 mw_24_6) rfl rfl rfl (by decide +kernel) ⟨Nat.le_of_ble_eq_true rfl, Nat.le_of_ble_eq_true rfl⟩ rfl hl.1 rfl (Nat.le_of_ble_eq_true rfl) dX5_share_35) hS (fun t8 H locs h hP hS => ?_)
      refine lv_aload_n hx hb dX5_share_38 rfl (lv_at hl 0 rfl) ?_
      refine fr_get (j := 21) C hP (by omega) (fG_MO adr cs t8) rfl (fun w h => List.mem_cons_of_mem _ (inl_X5 w h)) (by decide) rfl (List.mem_cons_of_mem _ mw_7_20) rfl dX5_share_39 ?_
      refine lv_iload_n hx hb dX5_share_42 rfl (lv_at hl 2 rfl) ?_
      refine fr_iald C hP (by omega) (fG_65 adr cs t8) h.1 dX5_share_43 ?_
      replace h := h.2
      exact fr_iret C hP hS h dX5_share_44
    · replace h := h.2 c9
      refine lv_ldc hx hb (v := (-1000000000)) C.1.2.2.2.1 (C.1.2.2.2.2 _ (List.mem_cons_of_mem _ mw_14_8)) dX5_share_30 ?_
      exact fr_iret C hP hS h dX5_share_32

/-! X5.further -/
abbrev wm_X5_further : List Cond := Cond.code yX5_further cX5_further 9 (some .long) :: wsL_law
def q_X5_further_81 (post : Int64 → fcS → Prop) (k39 : Int32 → Int64 → Int32 → fcS → Prop) : Nat → Int32 → Int64 → Int32 → Int64 → Int32 → fcS → Prop
  | 0, _, _, _, _, _, _ => False
  | n + 1, v2, v3, v5, v6, v8, t => (v5 ≤ v8 → ((vp_in v5 13) ∧ (∀ t8 : fcS, t8 = fsl t 66 (Int32.toNatClampNeg v5) v6 → (∀ x9 : Int32, x9 = v5 + 1 → (k39 v2 v3 x9 t8))))) ∧ (¬ v5 ≤ v8 → ((5 ≤ v8 → ((vp_in v5 13) ∧ (∀ t10 : fcS, t10 = fsl t 66 (Int32.toNatClampNeg v5) v6 → (∀ x11 : Int32, x11 = v5 + 1 → (k39 v2 v3 x11 t10))))) ∧ (¬ 5 ≤ v8 → ((vp_in v8 5) ∧ ((vp_in ((v5 - v8)) 13) ∧ (∀ x12 : Int64, x12 = (v6 - ((Int32.toInt64 ((fga t 65 (Int32.toNatClampNeg v8)))) * (fgl t 66 (Int32.toNatClampNeg ((v5 - v8)))))) → (∀ x13 : Int32, x13 = v8 + 1 → (q_X5_further_81 post k39 n v2 v3 v5 x12 x13 t))))))))
def q_X5_further_39 (post : Int64 → fcS → Prop) : Nat → Int32 → Int64 → Int32 → fcS → Prop
  | 0, _, _, _, _ => False
  | n + 1, v2, v3, v5, t => (v2 < v5 → ((vp_in v2 13) ∧ (post (((v3 + 1) - (fgl t 66 (Int32.toNatClampNeg v2)))) t))) ∧ (¬ v2 < v5 → (∀ x7 : Int64, x7 = (v3 * (Int32.toInt64 ((fgi t 53 1)))) → ((5 ≤ v5 → (∃ n0, q_X5_further_81 post (fun v2_ v3_ v5_ t_ => q_X5_further_39 post n v2_ v3_ v5_ t_) n0 v2 x7 v5 0 1 t)) ∧ (¬ 5 ≤ v5 → ((vp_in v5 5) ∧ (∀ x14 : Int64, x14 = ((-(Int32.toInt64 v5)) * (Int32.toInt64 ((fga t 65 (Int32.toNatClampNeg v5))))) → (∃ n0, q_X5_further_81 post (fun v2_ v3_ v5_ t_ => q_X5_further_39 post n v2_ v3_ v5_ t_) n0 v2 x7 v5 x14 1 t)))))))
def q_X5_further (t : fcS) (a0 : Int32) (a1 : Int32) (post : Int64 → fcS → Prop) : Prop := ∀ t1 : fcS, t1 = fsi t 53 0 0 → (q_X5_isCurve t1 a0 (fun (r3 : Int32) (t2 : fcS) => (r3 = 0 → (post ((-1)) t2)) ∧ (¬ r3 = 0 → (q_X5_in t2 ((Int32.toInt64 a1)) 1 12 (fun (r5 : Int32) (t4 : fcS) => (¬ r5 = 0 → (q_X5_needShares t4 a0 (fun (t6 : fcS) => ∃ n0, q_X5_further_39 post n0 a1 1 1 t6))) ∧ (r5 = 0 → (post ((-1)) t4)))))))
set_option maxHeartbeats 4000000 in
set_option maxRecDepth 100000 in
theorem k_X5_further_81 {D : va_G} {adr : Nat → Nat} {cs : Nat → ClassId} {N : Nat} (hN : 67 ≤ N) {p : Program} {l : Launch} {e : Env} {s : State} {m : MethodId} {args : Array Value} {below : List Frame} {meth : Method} {c : Code} (C : fCx D adr cs N p s m args meth c cX5_further 9 (some .long) RX5 wm_X5_further) {post : Int64 → fcS → Prop} {k39 : Int32 → Int64 → Int32 → fcS → Prop} (hk39 : ∀ (v2 : Int32) (v3 : Int64) (v5 : Int32) (t : fcS) (H : Heap) (locs : List Loc) (ls : Array Slot), k39 v2 v3 v5 t → va_P D vwCl (fwl adr N (fG adr cs t)) H → va_S (faN adr N) s.heap H locs → lv_has ls 9 [(0, .ref (adr 53)), (2, .int v2), (3, .long v3), (5, .int v5)] → W p l e ({ frames := 7, cells := 0, slots := 0, locals := 166 } : Room) s m args below meth c H locs 0 0 (MQ below (fQl D adr cs N post) args s 0 0 (faN adr N)) (F0 m 39 ls [])) : ∀ (n : Nat) (v2 : Int32) (v3 : Int64) (v5 : Int32) (v6 : Int64) (v8 : Int32) (t : fcS) (H : Heap) (locs : List Loc) (ls : Array Slot), q_X5_further_81 post k39 n v2 v3 v5 v6 v8 t → va_P D vwCl (fwl adr N (fG adr cs t)) H → va_S (faN adr N) s.heap H locs → lv_has ls 9 [(0, .ref (adr 53)), (2, .int v2), (3, .long v3), (5, .int v5), (6, .long v6), (8, .int v8)] → W p l e ({ frames := 7, cells := 0, slots := 0, locals := 166 } : Room) s m args below meth c H locs 0 0 (MQ below (fQl D adr cs N post) args s 0 0 (faN adr N)) (F0 m 81 ls []) := by
  have hx := C.1.1
  have hb := C.1.2.1
  intro n
  induction n with
  | zero => intro v2 v3 v5 v6 v8 t H locs ls h; exact False.elim h
  | succ n ih =>
    intro v2 v3 v5 v6 v8 t H locs ls h hP hS hl
    unfold q_X5_further_81 at h
    refine lv_iload hx hb dX5_further_81 (lv_at hl 5 rfl) ?_
    refine lv_iload hx hb dX5_further_83 (lv_at hl 3 rfl) ?_
    refine lv_icmp_ge (tgt := 124) hx hb dX5_further_85 (by decide) (fun c9 => ?_) (fun c9 => ?_)
    · replace h := h.1 c9
      refine lv_aload_n hx hb dX5_further_124 rfl (lv_at hl 0 rfl) ?_
      refine fr_get (j := 22) C hP (by omega) (fG_MO adr cs t) rfl (fun w h => List.mem_cons_of_mem _ (inl_X5 w h)) (by decide) rfl (List.mem_cons_of_mem _ mw_7_21) rfl dX5_further_125 ?_
      refine lv_iload hx hb dX5_further_128 (lv_at hl 3 rfl) ?_
      refine lv_lload hx hb dX5_further_130 (lv_at hl 4 rfl) ?_
      refine fr_last C hP hS (by omega) (fun u => (fG_66 adr cs u)) h.1 dX5_further_132 (fun H locs hP hS => ?_)
      obtain ⟨t8, et8⟩ : ∃ y : fcS, y = fsl t 66 (Int32.toNatClampNeg v5) v6 := ⟨_, rfl⟩
      rw [← et8] at hP
      replace h := h.2 t8 et8
      obtain ⟨x9, ex9⟩ : ∃ y : Int32, y = v5 + 1 := ⟨_, rfl⟩
      replace h := h x9 ex9
      refine lv_iinc (v := x9) (lv' := [(5, .int x9), (0, .ref (adr 53)), (2, .int v2), (3, .long v3), (6, .long v6), (8, .int v8)]) hx hb dX5_further_133 hl (k := 3) rfl (by rw [ex9]; rfl) (by decide) rfl (fun ls hl => ?_)
      refine lv_goto (tgt := 39) hx hb dX5_further_136 (by decide) ?_
      exact hk39 v2 v3 x9 t8 _ _ _ h hP hS (lv_sub hl [1, 2, 3, 0] rfl)
    · replace h := h.2 c9
      refine lv_iload hx hb dX5_further_88 (lv_at hl 5 rfl) ?_
      refine lv_iconst (v := 5) hx hb dX5_further_90 (by decide) ?_
      refine lv_icmp_ge (tgt := 124) hx hb dX5_further_91 (by decide) (fun c9 => ?_) (fun c9 => ?_)
      · replace h := h.1 c9
        refine lv_aload_n hx hb dX5_further_124 rfl (lv_at hl 0 rfl) ?_
        refine fr_get (j := 22) C hP (by omega) (fG_MO adr cs t) rfl (fun w h => List.mem_cons_of_mem _ (inl_X5 w h)) (by decide) rfl (List.mem_cons_of_mem _ mw_7_21) rfl dX5_further_125 ?_
        refine lv_iload hx hb dX5_further_128 (lv_at hl 3 rfl) ?_
        refine lv_lload hx hb dX5_further_130 (lv_at hl 4 rfl) ?_
        refine fr_last C hP hS (by omega) (fun u => (fG_66 adr cs u)) h.1 dX5_further_132 (fun H locs hP hS => ?_)
        obtain ⟨t10, et10⟩ : ∃ y : fcS, y = fsl t 66 (Int32.toNatClampNeg v5) v6 := ⟨_, rfl⟩
        rw [← et10] at hP
        replace h := h.2 t10 et10
        obtain ⟨x11, ex11⟩ : ∃ y : Int32, y = v5 + 1 := ⟨_, rfl⟩
        replace h := h x11 ex11
        refine lv_iinc (v := x11) (lv' := [(5, .int x11), (0, .ref (adr 53)), (2, .int v2), (3, .long v3), (6, .long v6), (8, .int v8)]) hx hb dX5_further_133 hl (k := 3) rfl (by rw [ex11]; rfl) (by decide) rfl (fun ls hl => ?_)
        refine lv_goto (tgt := 39) hx hb dX5_further_136 (by decide) ?_
        exact hk39 v2 v3 x11 t10 _ _ _ h hP hS (lv_sub hl [1, 2, 3, 0] rfl)
      · replace h := h.2 c9
        refine lv_lload hx hb dX5_further_94 (lv_at hl 4 rfl) ?_
        refine lv_aload_n hx hb dX5_further_96 rfl (lv_at hl 0 rfl) ?_
        refine fr_get (j := 21) C hP (by omega) (fG_MO adr cs t) rfl (fun w h => List.mem_cons_of_mem _ (inl_X5 w h)) (by decide) rfl (List.mem_cons_of_mem _ mw_7_20) rfl dX5_further_97 ?_
        refine lv_iload hx hb dX5_further_100 (lv_at hl 5 rfl) ?_
        refine fr_iald C hP (by omega) (fG_65 adr cs t) h.1 dX5_further_102 ?_
        replace h := h.2
        refine lv_i2l hx hb dX5_further_103 rfl ?_
        refine lv_aload_n hx hb dX5_further_104 rfl (lv_at hl 0 rfl) ?_
        refine fr_get (j := 22) C hP (by omega) (fG_MO adr cs t) rfl (fun w h => List.mem_cons_of_mem _ (inl_X5 w h)) (by decide) rfl (List.mem_cons_of_mem _ mw_7_21) rfl dX5_further_105 ?_
        refine lv_iload hx hb dX5_further_108 (lv_at hl 3 rfl) ?_
        refine lv_iload hx hb dX5_further_110 (lv_at hl 5 rfl) ?_
        refine lv_isub hx hb dX5_further_112 ?_
        refine fr_lald C hP (by omega) (fG_66 adr cs t) h.1 dX5_further_113 ?_
        replace h := h.2
        refine lv_lmul hx hb dX5_further_114 ?_
        refine lv_lsub hx hb dX5_further_115 ?_
        refine lv_topl (fun x12 ex12 => ?_)
        replace h := h x12 ex12
        refine lv_lstore (lv' := [(6, .long x12), (0, .ref (adr 53)), (2, .int v2), (3, .long v3), (5, .int v5), (8, .int v8)]) hx hb dX5_further_116 hl (by decide) rfl (fun ls hl => ?_)
        obtain ⟨x13, ex13⟩ : ∃ y : Int32, y = v8 + 1 := ⟨_, rfl⟩
        replace h := h x13 ex13
        refine lv_iinc (v := x13) (lv' := [(8, .int x13), (6, .long x12), (0, .ref (adr 53)), (2, .int v2), (3, .long v3), (5, .int v5)]) hx hb dX5_further_118 hl (k := 5) rfl (by rw [ex13]; rfl) (by decide) rfl (fun ls hl => ?_)
        refine lv_goto (tgt := 81) hx hb dX5_further_121 (by decide) ?_
        exact ih v2 v3 v5 x12 x13 t _ _ _ h hP hS (lv_sub hl [2, 3, 4, 5, 1, 0] rfl)

set_option maxHeartbeats 4000000 in
set_option maxRecDepth 100000 in
theorem k_X5_further_39 {D : va_G} {adr : Nat → Nat} {cs : Nat → ClassId} {N : Nat} (hN : 67 ≤ N) {p : Program} {l : Launch} {e : Env} {s : State} {m : MethodId} {args : Array Value} {below : List Frame} {meth : Method} {c : Code} (C : fCx D adr cs N p s m args meth c cX5_further 9 (some .long) RX5 wm_X5_further) {post : Int64 → fcS → Prop} : ∀ (n : Nat) (v2 : Int32) (v3 : Int64) (v5 : Int32) (t : fcS) (H : Heap) (locs : List Loc) (ls : Array Slot), q_X5_further_39 post n v2 v3 v5 t → va_P D vwCl (fwl adr N (fG adr cs t)) H → va_S (faN adr N) s.heap H locs → lv_has ls 9 [(0, .ref (adr 53)), (2, .int v2), (3, .long v3), (5, .int v5)] → W p l e ({ frames := 7, cells := 0, slots := 0, locals := 166 } : Room) s m args below meth c H locs 0 0 (MQ below (fQl D adr cs N post) args s 0 0 (faN adr N)) (F0 m 39 ls []) := by
  have hx := C.1.1
  have hb := C.1.2.1
  intro n
  induction n with
  | zero => intro v2 v3 v5 t H locs ls h; exact False.elim h
  | succ n ih =>
    intro v2 v3 v5 t H locs ls h hP hS hl
    unfold q_X5_further_39 at h
    refine lv_iload hx hb dX5_further_39 (lv_at hl 3 rfl) ?_
    refine lv_iload_n hx hb dX5_further_41 rfl (lv_at hl 1 rfl) ?_
    refine lv_icmp_gt (tgt := 139) hx hb dX5_further_42 (by decide) (fun c9 => ?_) (fun c9 => ?_)
    · replace h := h.1 c9
      refine lv_lload_n hx hb dX5_further_139 rfl (lv_at hl 2 rfl) ?_
      refine lv_lconst (v := 1) hx hb dX5_further_140 (by decide) ?_
      refine lv_ladd hx hb dX5_further_141 ?_
      refine lv_aload_n hx hb dX5_further_142 rfl (lv_at hl 0 rfl) ?_
      refine fr_get (j := 22) C hP (by omega) (fG_MO adr cs t) rfl (fun w h => List.mem_cons_of_mem _ (inl_X5 w h)) (by decide) rfl (List.mem_cons_of_mem _ mw_7_21) rfl dX5_further_143 ?_
      refine lv_iload_n hx hb dX5_further_146 rfl (lv_at hl 1 rfl) ?_
      refine fr_lald C hP (by omega) (fG_66 adr cs t) h.1 dX5_further_147 ?_
      replace h := h.2
      refine lv_lsub hx hb dX5_further_148 ?_
      exact fr_lret C hP hS h dX5_further_149
    · replace h := h.2 c9
      refine lv_lload_n hx hb dX5_further_45 rfl (lv_at hl 2 rfl) ?_
      refine lv_aload_n hx hb dX5_further_46 rfl (lv_at hl 0 rfl) ?_
      refine fr_get (j := 1) C hP (by omega) (fG_MO adr cs t) rfl (fun w h => List.mem_cons_of_mem _ (inl_X5 w h)) (by decide) rfl (List.mem_cons_of_mem _ mw_7_5) rfl dX5_further_47 ?_
      refine lv_i2l hx hb dX5_further_50 rfl ?_
      refine lv_lmul hx hb dX5_further_51 ?_
      refine lv_topl (fun x7 ex7 => ?_)
      replace h := h x7 ex7
      refine lv_lstore_n (lv' := [(3, .long x7), (0, .ref (adr 53)), (2, .int v2), (5, .int v5)]) hx hb dX5_further_52 rfl hl (by decide) rfl (fun ls hl => ?_)
      refine lv_iload hx hb dX5_further_53 (lv_at hl 3 rfl) ?_
      refine lv_iconst (v := 5) hx hb dX5_further_55 (by decide) ?_
      refine lv_icmp_ge (tgt := 75) hx hb dX5_further_56 (by decide) (fun c9 => ?_) (fun c9 => ?_)
      · replace h := h.1 c9
        refine lv_lconst (v := 0) hx hb dX5_further_75 (by decide) ?_
        refine lv_lstore (lv' := [(6, .long 0), (3, .long x7), (0, .ref (adr 53)), (2, .int v2), (5, .int v5)]) hx hb dX5_further_76 hl (by decide) rfl (fun ls hl => ?_)
        refine lv_iconst (v := 1) hx hb dX5_further_78 (by decide) ?_
        refine lv_istore (lv' := [(8, .int 1), (6, .long 0), (3, .long x7), (0, .ref (adr 53)), (2, .int v2), (5, .int v5)]) hx hb dX5_further_79 hl (by decide) rfl (fun ls hl => ?_)
        obtain ⟨n9, h⟩ := h
        exact k_X5_further_81 hN C ih n9 v2 x7 v5 0 1 t _ _ _ h hP hS (lv_sub hl [3, 4, 2, 5, 1, 0] rfl)
      · replace h := h.2 c9
        refine lv_iload hx hb dX5_further_59 (lv_at hl 3 rfl) ?_
        refine lv_i2l hx hb dX5_further_61 rfl ?_
        refine lv_lneg hx hb dX5_further_62 ?_
        refine lv_aload_n hx hb dX5_further_63 rfl (lv_at hl 1 rfl) ?_
        refine fr_get (j := 21) C hP (by omega) (fG_MO adr cs t) rfl (fun w h => List.mem_cons_of_mem _ (inl_X5 w h)) (by decide) rfl (List.mem_cons_of_mem _ mw_7_20) rfl dX5_further_64 ?_
        refine lv_iload hx hb dX5_further_67 (lv_at hl 3 rfl) ?_
        refine fr_iald C hP (by omega) (fG_65 adr cs t) h.1 dX5_further_69 ?_
        replace h := h.2
        refine lv_i2l hx hb dX5_further_70 rfl ?_
        refine lv_lmul hx hb dX5_further_71 ?_
        refine lv_goto (tgt := 76) hx hb dX5_further_72 (by decide) ?_
        refine lv_topl (fun x14 ex14 => ?_)
        replace h := h x14 ex14
        refine lv_lstore (lv' := [(6, .long x14), (3, .long x7), (0, .ref (adr 53)), (2, .int v2), (5, .int v5)]) hx hb dX5_further_76 hl (by decide) rfl (fun ls hl => ?_)
        refine lv_iconst (v := 1) hx hb dX5_further_78 (by decide) ?_
        refine lv_istore (lv' := [(8, .int 1), (6, .long x14), (3, .long x7), (0, .ref (adr 53)), (2, .int v2), (5, .int v5)]) hx hb dX5_further_79 hl (by decide) rfl (fun ls hl => ?_)
        obtain ⟨n9, h⟩ := h
        exact k_X5_further_81 hN C ih n9 v2 x7 v5 x14 1 t _ _ _ h hP hS (lv_sub hl [3, 4, 2, 5, 1, 0] rfl)

set_option maxHeartbeats 4000000 in
set_option maxRecDepth 100000 in
theorem c_X5_further (l : Launch) (D : va_G) (adr : Nat → Nat) (cs : Nat → ClassId) {N : Nat} (hN : 67 ≤ N) (t : fcS) (a0 : Int32) (a1 : Int32) (post : Int64 → fcS → Prop) (h : q_X5_further t a0 a1 post) : Met l yX5_further wm_X5_further ({ frames := 7, cells := 0, slots := 0, locals := 166 } : Room) (fcPre D adr cs N t [.ref (adr 53), .int a0, .int a1]) (fQl D adr cs N post) 0 0 (faN adr N) := by
  refine f_enter (cc := cX5_further) (nL := 9) (ret := some .long) (lv := [(0, .ref (adr 53)), (1, .int a0), (2, .int a1)]) (own := RX5) (by decide) rfl (Nat.le_of_ble_eq_true rfl) rfl rfl ?_
  intro p e s m below meth c ls C hP hS hl
  have hx := C.1.1
  have hb := C.1.2.1
  unfold q_X5_further at h
  refine lv_aload_n hx hb dX5_further_0 rfl (lv_at hl 0 rfl) ?_
  refine lv_iconst (v := 0) hx hb dX5_further_1 (by decide) ?_
  refine fr_put C (fsi t 53 0 0) (j := 0) (ty := .int) hP hS (by omega) (fG_MO adr cs t) rfl (fun w h => List.mem_cons_of_mem _ (inl_X5 w h)) tyX5_ok nmX5 (by decide) rfl (List.mem_cons_of_mem _ mw_10_14) rfl (by decide +kernel) rfl rfl (Nat.le_of_ble_eq_true rfl) (fS_MO_0 adr cs t 0) (fG_fsi_ne adr cs t 53 0 0) dX5_further_2 (fun H locs hP hS => ?_)
  obtain ⟨t1, et1⟩ : ∃ y : fcS, y = fsi t 53 0 0 := ⟨_, rfl⟩
  rw [← et1] at hP
  replace h := h t1 et1
  refine lv_aload_n hx hb dX5_further_5 rfl (lv_at hl 0 rfl) ?_
  refine lv_iload_n hx hb dX5_further_6 rfl (lv_at hl 1 rfl) ?_
  refine fr_ci (fr_runV (n := 1) (rest := []) C (c_X5_isCurve l D adr cs hN t1 a0 _ h) hP hS (by omega) (fG_MO adr cs t1) rfl (fgV mw_19_23 mw_20_0 mw_20_1 mw_1_5 mw_20_2) rfl rfl rfl (by decide +kernel) ⟨Nat.le_of_ble_eq_true rfl, Nat.le_of_ble_eq_true rfl⟩ rfl hl.1 rfl (Nat.le_of_ble_eq_true rfl) dX5_further_7) hS (fun r3 t2 H locs h hP hS => ?_)
  refine lv_if_eq (tgt := 25) hx hb dX5_further_10 (by decide) (fun c9 => ?_) (fun c9 => ?_)
  · replace h := h.1 c9
    refine lv_ldc2 hx hb (v := (-1)) C.1.2.2.2.1 (C.1.2.2.2.2 _ (List.mem_cons_of_mem _ mw_24_17)) dX5_further_25 ?_
    exact fr_lret C hP hS h dX5_further_28
  · replace h := h.2 c9
    refine lv_iload_n hx hb dX5_further_13 rfl (lv_at hl 2 rfl) ?_
    refine lv_i2l hx hb dX5_further_14 rfl ?_
    refine lv_lconst (v := 1) hx hb dX5_further_15 (by decide) ?_
    refine lv_ldc2 hx hb (v := 12) C.1.2.2.2.1 (C.1.2.2.2.2 _ (List.mem_cons_of_mem _ mw_24_16)) dX5_further_16 ?_
    refine fr_ci (fr_runS (n := 3) (rest := []) C (c_X5_in l D adr cs hN t2 ((Int32.toInt64 a1)) 1 12 _ h) hP hS (fgS mw_11_3 mw_11_4 mw_1_5 mw_11_5) rfl rfl rfl (by decide +kernel) ⟨Nat.le_of_ble_eq_true rfl, Nat.le_of_ble_eq_true rfl⟩ rfl hl.1 rfl (Nat.le_of_ble_eq_true rfl) dX5_further_19) hS (fun r5 t4 H locs h hP hS => ?_)
    refine lv_if_ne (tgt := 29) hx hb dX5_further_22 (by decide) (fun c9 => ?_) (fun c9 => ?_)
    · replace h := h.1 c9
      refine lv_aload_n hx hb dX5_further_29 rfl (lv_at hl 0 rfl) ?_
      refine lv_iload_n hx hb dX5_further_30 rfl (lv_at hl 1 rfl) ?_
      refine fr_cv (fr_runV (n := 1) (rest := []) C (c_X5_needShares l D adr cs hN t4 a0 _ h) hP hS (by omega) (fG_MO adr cs t4) rfl (fgV mw_24_3 mw_24_4 mw_24_5 mw_1_5 mw_24_6) rfl rfl rfl (by decide +kernel) ⟨Nat.le_of_ble_eq_true rfl, Nat.le_of_ble_eq_true rfl⟩ rfl hl.1 rfl (Nat.le_of_ble_eq_true rfl) dX5_further_31) hS (fun t6 H locs h hP hS => ?_)
      refine lv_lconst (v := 1) hx hb dX5_further_34 (by decide) ?_
      refine lv_lstore_n (lv' := [(3, .long 1), (0, .ref (adr 53)), (1, .int a0), (2, .int a1)]) hx hb dX5_further_35 rfl hl (by decide) rfl (fun ls hl => ?_)
      refine lv_iconst (v := 1) hx hb dX5_further_36 (by decide) ?_
      refine lv_istore (lv' := [(5, .int 1), (3, .long 1), (0, .ref (adr 53)), (1, .int a0), (2, .int a1)]) hx hb dX5_further_37 hl (by decide) rfl (fun ls hl => ?_)
      obtain ⟨n9, h⟩ := h
      exact k_X5_further_39 hN C n9 a1 1 1 t6 _ _ _ h hP hS (lv_sub hl [2, 4, 1, 0] rfl)
    · replace h := h.2 c9
      refine lv_ldc2 hx hb (v := (-1)) C.1.2.2.2.1 (C.1.2.2.2.2 _ (List.mem_cons_of_mem _ mw_24_17)) dX5_further_25 ?_
      exact fr_lret C hP hS h dX5_further_28

/-! X5.wholeOf -/
abbrev wm_X5_wholeOf : List Cond := Cond.code yX5_wholeOf cX5_wholeOf 2 (some .int) :: wsL_law
def q_X5_wholeOf (t : fcS) (a0 : Int32) (post : Int32 → fcS → Prop) : Prop := q_X5_needShares t a0 (fun (t1 : fcS) => (vp_in 0 5) ∧ ((vp_in 1 5) ∧ ((vp_in 2 5) ∧ ((vp_in 3 5) ∧ ((vp_in 4 5) ∧ (post ((((((fga t1 65 (Int32.toNatClampNeg 0)) + (fga t1 65 (Int32.toNatClampNeg 1))) + (fga t1 65 (Int32.toNatClampNeg 2))) + (fga t1 65 (Int32.toNatClampNeg 3))) + (fga t1 65 (Int32.toNatClampNeg 4)))) t1))))))
set_option maxHeartbeats 4000000 in
set_option maxRecDepth 100000 in
theorem c_X5_wholeOf (l : Launch) (D : va_G) (adr : Nat → Nat) (cs : Nat → ClassId) {N : Nat} (hN : 67 ≤ N) (t : fcS) (a0 : Int32) (post : Int32 → fcS → Prop) (h : q_X5_wholeOf t a0 post) : Met l yX5_wholeOf wm_X5_wholeOf ({ frames := 7, cells := 0, slots := 0, locals := 166 } : Room) (fcPre D adr cs N t [.ref (adr 53), .int a0]) (fQi D adr cs N post) 0 0 (faN adr N) := by
  refine f_enter (cc := cX5_wholeOf) (nL := 2) (ret := some .int) (lv := [(0, .ref (adr 53)), (1, .int a0)]) (own := RX5) (by decide) rfl (Nat.le_of_ble_eq_true rfl) rfl rfl ?_
  intro p e s m below meth c ls C hP hS hl
  have hx := C.1.1
  have hb := C.1.2.1
  unfold q_X5_wholeOf at h
  refine lv_aload_n hx hb dX5_wholeOf_0 rfl (lv_at hl 0 rfl) ?_
  refine lv_iload_n hx hb dX5_wholeOf_1 rfl (lv_at hl 1 rfl) ?_
  refine fr_cv (fr_runV (n := 1) (rest := []) C (c_X5_needShares l D adr cs hN t a0 _ h) hP hS (by omega) (fG_MO adr cs t) rfl (fgV mw_24_3 mw_24_4 mw_24_5 mw_1_5 mw_24_6) rfl rfl rfl (by decide +kernel) ⟨Nat.le_of_ble_eq_true rfl, Nat.le_of_ble_eq_true rfl⟩ rfl hl.1 rfl (Nat.le_of_ble_eq_true rfl) dX5_wholeOf_2) hS (fun t1 H locs h hP hS => ?_)
  refine lv_aload_n hx hb dX5_wholeOf_5 rfl (lv_at hl 0 rfl) ?_
  refine fr_get (j := 21) C hP (by omega) (fG_MO adr cs t1) rfl (fun w h => List.mem_cons_of_mem _ (inl_X5 w h)) (by decide) rfl (List.mem_cons_of_mem _ mw_7_20) rfl dX5_wholeOf_6 ?_
  refine lv_iconst (v := 0) hx hb dX5_wholeOf_9 (by decide) ?_
  refine fr_iald C hP (by omega) (fG_65 adr cs t1) h.1 dX5_wholeOf_10 ?_
  replace h := h.2
  refine lv_aload_n hx hb dX5_wholeOf_11 rfl (lv_at hl 0 rfl) ?_
  refine fr_get (j := 21) C hP (by omega) (fG_MO adr cs t1) rfl (fun w h => List.mem_cons_of_mem _ (inl_X5 w h)) (by decide) rfl (List.mem_cons_of_mem _ mw_7_20) rfl dX5_wholeOf_12 ?_
  refine lv_iconst (v := 1) hx hb dX5_wholeOf_15 (by decide) ?_
  refine fr_iald C hP (by omega) (fG_65 adr cs t1) h.1 dX5_wholeOf_16 ?_
  replace h := h.2
  refine lv_iadd hx hb dX5_wholeOf_17 ?_
  refine lv_aload_n hx hb dX5_wholeOf_18 rfl (lv_at hl 0 rfl) ?_
  refine fr_get (j := 21) C hP (by omega) (fG_MO adr cs t1) rfl (fun w h => List.mem_cons_of_mem _ (inl_X5 w h)) (by decide) rfl (List.mem_cons_of_mem _ mw_7_20) rfl dX5_wholeOf_19 ?_
  refine lv_iconst (v := 2) hx hb dX5_wholeOf_22 (by decide) ?_
  refine fr_iald C hP (by omega) (fG_65 adr cs t1) h.1 dX5_wholeOf_23 ?_
  replace h := h.2
  refine lv_iadd hx hb dX5_wholeOf_24 ?_
  refine lv_aload_n hx hb dX5_wholeOf_25 rfl (lv_at hl 0 rfl) ?_
  refine fr_get (j := 21) C hP (by omega) (fG_MO adr cs t1) rfl (fun w h => List.mem_cons_of_mem _ (inl_X5 w h)) (by decide) rfl (List.mem_cons_of_mem _ mw_7_20) rfl dX5_wholeOf_26 ?_
  refine lv_iconst (v := 3) hx hb dX5_wholeOf_29 (by decide) ?_
  refine fr_iald C hP (by omega) (fG_65 adr cs t1) h.1 dX5_wholeOf_30 ?_
  replace h := h.2
  refine lv_iadd hx hb dX5_wholeOf_31 ?_
  refine lv_aload_n hx hb dX5_wholeOf_32 rfl (lv_at hl 0 rfl) ?_
  refine fr_get (j := 21) C hP (by omega) (fG_MO adr cs t1) rfl (fun w h => List.mem_cons_of_mem _ (inl_X5 w h)) (by decide) rfl (List.mem_cons_of_mem _ mw_7_20) rfl dX5_wholeOf_33 ?_
  refine lv_iconst (v := 4) hx hb dX5_wholeOf_36 (by decide) ?_
  refine fr_iald C hP (by omega) (fG_65 adr cs t1) h.1 dX5_wholeOf_37 ?_
  replace h := h.2
  refine lv_iadd hx hb dX5_wholeOf_38 ?_
  exact fr_iret C hP hS h dX5_wholeOf_39

/-! X5.whole -/
abbrev wm_X5_whole : List Cond := Cond.code yX5_whole cX5_whole 2 (some .int) :: wsL_law
def q_X5_whole (t : fcS) (a0 : Int32) (post : Int32 → fcS → Prop) : Prop := ∀ t1 : fcS, t1 = fsi t 53 0 0 → (q_X5_isCurve t1 a0 (fun (r3 : Int32) (t2 : fcS) => (r3 = 0 → (post ((-1)) t2)) ∧ (¬ r3 = 0 → (q_X5_wholeOf t2 a0 (fun (r5 : Int32) (t4 : fcS) => post r5 t4)))))
set_option maxHeartbeats 4000000 in
set_option maxRecDepth 100000 in
theorem c_X5_whole (l : Launch) (D : va_G) (adr : Nat → Nat) (cs : Nat → ClassId) {N : Nat} (hN : 67 ≤ N) (t : fcS) (a0 : Int32) (post : Int32 → fcS → Prop) (h : q_X5_whole t a0 post) : Met l yX5_whole wm_X5_whole ({ frames := 8, cells := 0, slots := 0, locals := 187 } : Room) (fcPre D adr cs N t [.ref (adr 53), .int a0]) (fQi D adr cs N post) 0 0 (faN adr N) := by
  refine f_enter (cc := cX5_whole) (nL := 2) (ret := some .int) (lv := [(0, .ref (adr 53)), (1, .int a0)]) (own := RX5) (by decide) rfl (Nat.le_of_ble_eq_true rfl) rfl rfl ?_
  intro p e s m below meth c ls C hP hS hl
  have hx := C.1.1
  have hb := C.1.2.1
  unfold q_X5_whole at h
  refine lv_aload_n hx hb dX5_whole_0 rfl (lv_at hl 0 rfl) ?_
  refine lv_iconst (v := 0) hx hb dX5_whole_1 (by decide) ?_
  refine fr_put C (fsi t 53 0 0) (j := 0) (ty := .int) hP hS (by omega) (fG_MO adr cs t) rfl (fun w h => List.mem_cons_of_mem _ (inl_X5 w h)) tyX5_ok nmX5 (by decide) rfl (List.mem_cons_of_mem _ mw_10_14) rfl (by decide +kernel) rfl rfl (Nat.le_of_ble_eq_true rfl) (fS_MO_0 adr cs t 0) (fG_fsi_ne adr cs t 53 0 0) dX5_whole_2 (fun H locs hP hS => ?_)
  obtain ⟨t1, et1⟩ : ∃ y : fcS, y = fsi t 53 0 0 := ⟨_, rfl⟩
  rw [← et1] at hP
  replace h := h t1 et1
  refine lv_aload_n hx hb dX5_whole_5 rfl (lv_at hl 0 rfl) ?_
  refine lv_iload_n hx hb dX5_whole_6 rfl (lv_at hl 1 rfl) ?_
  refine fr_ci (fr_runV (n := 1) (rest := []) C (c_X5_isCurve l D adr cs hN t1 a0 _ h) hP hS (by omega) (fG_MO adr cs t1) rfl (fgV mw_19_23 mw_20_0 mw_20_1 mw_1_5 mw_20_2) rfl rfl rfl (by decide +kernel) ⟨Nat.le_of_ble_eq_true rfl, Nat.le_of_ble_eq_true rfl⟩ rfl hl.1 rfl (Nat.le_of_ble_eq_true rfl) dX5_whole_7) hS (fun r3 t2 H locs h hP hS => ?_)
  refine lv_if_eq (tgt := 21) hx hb dX5_whole_10 (by decide) (fun c9 => ?_) (fun c9 => ?_)
  · replace h := h.1 c9
    refine lv_iconst (v := (-1)) hx hb dX5_whole_21 (by decide) ?_
    exact fr_iret C hP hS h dX5_whole_22
  · replace h := h.2 c9
    refine lv_aload_n hx hb dX5_whole_13 rfl (lv_at hl 0 rfl) ?_
    refine lv_iload_n hx hb dX5_whole_14 rfl (lv_at hl 1 rfl) ?_
    refine fr_ci (fr_runV (n := 1) (rest := []) C (c_X5_wholeOf l D adr cs hN t2 a0 _ h) hP hS (by omega) (fG_MO adr cs t2) rfl (fgV mw_25_2 mw_25_3 mw_25_4 mw_1_5 mw_25_5) rfl rfl rfl (by decide +kernel) ⟨Nat.le_of_ble_eq_true rfl, Nat.le_of_ble_eq_true rfl⟩ rfl hl.1 rfl (Nat.le_of_ble_eq_true rfl) dX5_whole_15) hS (fun r5 t4 H locs h hP hS => ?_)
    refine lv_goto (tgt := 22) hx hb dX5_whole_18 (by decide) ?_
    exact fr_iret C hP hS h dX5_whole_22

/-! X5.bound -/
abbrev wm_X5_bound : List Cond := Cond.code yX5_bound cX5_bound 3 (some .int) :: wsL_law
def q_X5_bound_21 (post : Int32 → fcS → Prop) : Nat → Int32 → Int32 → fcS → Prop
  | 0, _, _, _ => False
  | n + 1, v1, v2, t => ((((4 * v1) * v1) * (fgi t 53 1)) < ((v2 + 1) * (v2 + 1)) → (post v2 t)) ∧ (¬ (((4 * v1) * v1) * (fgi t 53 1)) < ((v2 + 1) * (v2 + 1)) → (∀ x4 : Int32, x4 = v2 + 1 → (q_X5_bound_21 post n v1 x4 t)))
def q_X5_bound (t : fcS) (a0 : Int32) (post : Int32 → fcS → Prop) : Prop := ∀ t1 : fcS, t1 = fsi t 53 0 0 → (q_X5_in t1 ((Int32.toInt64 a0)) 1 2 (fun (r3 : Int32) (t2 : fcS) => (¬ r3 = 0 → (∃ n0, q_X5_bound_21 post n0 a0 0 t2)) ∧ (r3 = 0 → (post ((-1)) t2))))
set_option maxHeartbeats 4000000 in
set_option maxRecDepth 100000 in
theorem k_X5_bound_21 {D : va_G} {adr : Nat → Nat} {cs : Nat → ClassId} {N : Nat} (hN : 67 ≤ N) {p : Program} {l : Launch} {e : Env} {s : State} {m : MethodId} {args : Array Value} {below : List Frame} {meth : Method} {c : Code} (C : fCx D adr cs N p s m args meth c cX5_bound 3 (some .int) RX5 wm_X5_bound) {post : Int32 → fcS → Prop} : ∀ (n : Nat) (v1 : Int32) (v2 : Int32) (t : fcS) (H : Heap) (locs : List Loc) (ls : Array Slot), q_X5_bound_21 post n v1 v2 t → va_P D vwCl (fwl adr N (fG adr cs t)) H → va_S (faN adr N) s.heap H locs → lv_has ls 3 [(0, .ref (adr 53)), (1, .int v1), (2, .int v2)] → W p l e ({ frames := 1, cells := 0, slots := 0, locals := 25 } : Room) s m args below meth c H locs 0 0 (MQ below (fQi D adr cs N post) args s 0 0 (faN adr N)) (F0 m 21 ls []) := by
  have hx := C.1.1
  have hb := C.1.2.1
  intro n
  induction n with
  | zero => intro v1 v2 t H locs ls h; exact False.elim h
  | succ n ih =>
    intro v1 v2 t H locs ls h hP hS hl
    unfold q_X5_bound_21 at h
    refine lv_iload_n hx hb dX5_bound_21 rfl (lv_at hl 2 rfl) ?_
    refine lv_iconst (v := 1) hx hb dX5_bound_22 (by decide) ?_
    refine lv_iadd hx hb dX5_bound_23 ?_
    refine lv_iload_n hx hb dX5_bound_24 rfl (lv_at hl 2 rfl) ?_
    refine lv_iconst (v := 1) hx hb dX5_bound_25 (by decide) ?_
    refine lv_iadd hx hb dX5_bound_26 ?_
    refine lv_imul hx hb dX5_bound_27 ?_
    refine lv_iconst (v := 4) hx hb dX5_bound_28 (by decide) ?_
    refine lv_iload_n hx hb dX5_bound_29 rfl (lv_at hl 1 rfl) ?_
    refine lv_imul hx hb dX5_bound_30 ?_
    refine lv_iload_n hx hb dX5_bound_31 rfl (lv_at hl 1 rfl) ?_
    refine lv_imul hx hb dX5_bound_32 ?_
    refine lv_aload_n hx hb dX5_bound_33 rfl (lv_at hl 0 rfl) ?_
    refine fr_get (j := 1) C hP (by omega) (fG_MO adr cs t) rfl (fun w h => List.mem_cons_of_mem _ (inl_X5 w h)) (by decide) rfl (List.mem_cons_of_mem _ mw_7_5) rfl dX5_bound_34 ?_
    refine lv_imul hx hb dX5_bound_37 ?_
    refine lv_icmp_gt (tgt := 47) hx hb dX5_bound_38 (by decide) (fun c9 => ?_) (fun c9 => ?_)
    · replace h := h.1 c9
      refine lv_iload_n hx hb dX5_bound_47 rfl (lv_at hl 2 rfl) ?_
      exact fr_iret C hP hS h dX5_bound_48
    · replace h := h.2 c9
      obtain ⟨x4, ex4⟩ : ∃ y : Int32, y = v2 + 1 := ⟨_, rfl⟩
      replace h := h x4 ex4
      refine lv_iinc (v := x4) (lv' := [(2, .int x4), (0, .ref (adr 53)), (1, .int v1)]) hx hb dX5_bound_41 hl (k := 2) rfl (by rw [ex4]; rfl) (by decide) rfl (fun ls hl => ?_)
      refine lv_goto (tgt := 21) hx hb dX5_bound_44 (by decide) ?_
      exact ih v1 x4 t _ _ _ h hP hS (lv_sub hl [1, 2, 0] rfl)

set_option maxHeartbeats 4000000 in
set_option maxRecDepth 100000 in
theorem c_X5_bound (l : Launch) (D : va_G) (adr : Nat → Nat) (cs : Nat → ClassId) {N : Nat} (hN : 67 ≤ N) (t : fcS) (a0 : Int32) (post : Int32 → fcS → Prop) (h : q_X5_bound t a0 post) : Met l yX5_bound wm_X5_bound ({ frames := 1, cells := 0, slots := 0, locals := 25 } : Room) (fcPre D adr cs N t [.ref (adr 53), .int a0]) (fQi D adr cs N post) 0 0 (faN adr N) := by
  refine f_enter (cc := cX5_bound) (nL := 3) (ret := some .int) (lv := [(0, .ref (adr 53)), (1, .int a0)]) (own := RX5) (by decide) rfl (Nat.le_of_ble_eq_true rfl) rfl rfl ?_
  intro p e s m below meth c ls C hP hS hl
  have hx := C.1.1
  have hb := C.1.2.1
  unfold q_X5_bound at h
  refine lv_aload_n hx hb dX5_bound_0 rfl (lv_at hl 0 rfl) ?_
  refine lv_iconst (v := 0) hx hb dX5_bound_1 (by decide) ?_
  refine fr_put C (fsi t 53 0 0) (j := 0) (ty := .int) hP hS (by omega) (fG_MO adr cs t) rfl (fun w h => List.mem_cons_of_mem _ (inl_X5 w h)) tyX5_ok nmX5 (by decide) rfl (List.mem_cons_of_mem _ mw_10_14) rfl (by decide +kernel) rfl rfl (Nat.le_of_ble_eq_true rfl) (fS_MO_0 adr cs t 0) (fG_fsi_ne adr cs t 53 0 0) dX5_bound_2 (fun H locs hP hS => ?_)
  obtain ⟨t1, et1⟩ : ∃ y : fcS, y = fsi t 53 0 0 := ⟨_, rfl⟩
  rw [← et1] at hP
  replace h := h t1 et1
  refine lv_iload_n hx hb dX5_bound_5 rfl (lv_at hl 1 rfl) ?_
  refine lv_i2l hx hb dX5_bound_6 rfl ?_
  refine lv_lconst (v := 1) hx hb dX5_bound_7 (by decide) ?_
  refine lv_ldc2 hx hb (v := 2) C.1.2.2.2.1 (C.1.2.2.2.2 _ (List.mem_cons_of_mem _ mw_18_1)) dX5_bound_8 ?_
  refine fr_ci (fr_runS (n := 3) (rest := []) C (c_X5_in l D adr cs hN t1 ((Int32.toInt64 a0)) 1 2 _ h) hP hS (fgS mw_11_3 mw_11_4 mw_1_5 mw_11_5) rfl rfl rfl (by decide +kernel) ⟨Nat.le_of_ble_eq_true rfl, Nat.le_of_ble_eq_true rfl⟩ rfl hl.1 rfl (Nat.le_of_ble_eq_true rfl) dX5_bound_11) hS (fun r3 t2 H locs h hP hS => ?_)
  refine lv_if_ne (tgt := 19) hx hb dX5_bound_14 (by decide) (fun c9 => ?_) (fun c9 => ?_)
  · replace h := h.1 c9
    refine lv_iconst (v := 0) hx hb dX5_bound_19 (by decide) ?_
    refine lv_istore_n (lv' := [(2, .int 0), (0, .ref (adr 53)), (1, .int a0)]) hx hb dX5_bound_20 rfl hl (by decide) rfl (fun ls hl => ?_)
    obtain ⟨n9, h⟩ := h
    exact k_X5_bound_21 hN C n9 a0 0 t2 _ _ _ h hP hS (lv_sub hl [1, 2, 0] rfl)
  · replace h := h.2 c9
    refine lv_iconst (v := (-1)) hx hb dX5_bound_17 (by decide) ?_
    exact fr_iret C hP hS h dX5_bound_18

