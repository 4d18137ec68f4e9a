/-! X4.fieldAt -/
abbrev wm_X4_fieldAt : List Cond := Cond.code yX4_fieldAt cX4_fieldAt 3 (some (.object "FieldCounts$Field")) :: wsL_law
def q_X4_fieldAt (t : fcS) (a0 : Int32) (post : Option Nat → fcS → Prop) : Prop := (a0 < 1 → (post none t)) ∧ (¬ a0 < 1 → (((fgi t 0 5) < a0 → (post none t)) ∧ (¬ (fgi t 0 5) < a0 → ((a0 ≤ 5 → ((vp_in ((a0 - 1)) 5) ∧ (∀ i1 : Nat, i1 = 6 + 3 * Int32.toNatClampNeg ((a0 - 1)) → (q_X2_fit t i1 (fun (t2 : fcS) => post (some i1) t2))))) ∧ (¬ a0 ≤ 5 → (post none t))))))
set_option maxHeartbeats 4000000 in
set_option maxRecDepth 100000 in
theorem c_X4_fieldAt (l : Launch) (D : va_G) (adr : Nat → Nat) (cs : Nat → ClassId) {N : Nat} (hN : 53 ≤ N) (t : fcS) (a0 : Int32) (post : Option Nat → fcS → Prop) (h : q_X4_fieldAt t a0 post) : Met l yX4_fieldAt wm_X4_fieldAt ({ frames := 4, cells := 0, slots := 0, locals := 101 } : Room) (fcPre D adr cs N t [.ref (adr 0), .int a0]) (fQq D adr cs N post) 0 0 (faN adr N) := by
  refine f_enter (cc := cX4_fieldAt) (nL := 3) (ret := some (.object "FieldCounts$Field")) (lv := [(0, .ref (adr 0)), (1, .int a0)]) (own := RX4) (by decide) rfl (Nat.le_of_ble_eq_true rfl) rfl rfl ?_
  intro p e s m below meth c ls C hP hS hl
  have hx := C.1.1
  have hb := C.1.2.1
  unfold q_X4_fieldAt at h
  refine lv_iload_n hx hb dX4_fieldAt_0 rfl (lv_at hl 1 rfl) ?_
  refine lv_iconst (v := 1) hx hb dX4_fieldAt_1 (by decide) ?_
  refine lv_icmp_lt (tgt := 22) hx hb dX4_fieldAt_2 (by decide) (fun c9 => ?_) (fun c9 => ?_)
  · replace h := h.1 c9
    refine lv_null hx hb dX4_fieldAt_22 ?_
    exact fr_aret C none (Or.inl ⟨_, rfl⟩) rfl hP hS h dX4_fieldAt_23
  · replace h := h.2 c9
    refine lv_iload_n hx hb dX4_fieldAt_5 rfl (lv_at hl 1 rfl) ?_
    refine lv_aload_n hx hb dX4_fieldAt_6 rfl (lv_at hl 0 rfl) ?_
    refine fr_get (j := 5) C hP (by omega) (fG_FC adr cs t) rfl (fun w h => List.mem_cons_of_mem _ (inl_X4 w h)) (by decide) rfl (List.mem_cons_of_mem _ mw_3_19) rfl dX4_fieldAt_7 ?_
    refine lv_icmp_gt (tgt := 22) hx hb dX4_fieldAt_10 (by decide) (fun c9 => ?_) (fun c9 => ?_)
    · replace h := h.1 c9
      refine lv_null hx hb dX4_fieldAt_22 ?_
      exact fr_aret C none (Or.inl ⟨_, rfl⟩) rfl hP hS h dX4_fieldAt_23
    · replace h := h.2 c9
      refine lv_iload_n hx hb dX4_fieldAt_13 rfl (lv_at hl 1 rfl) ?_
      refine lv_aload_n hx hb dX4_fieldAt_14 rfl (lv_at hl 0 rfl) ?_
      refine fr_get (j := 1) C hP (by omega) (fG_FC adr cs t) rfl (fun w h => List.mem_cons_of_mem _ (inl_X4 w h)) (by decide) rfl (List.mem_cons_of_mem _ mw_1_17) rfl dX4_fieldAt_15 ?_
      refine fr_alen (q := 3) (v := 5) C hP (by omega) (fG_2 adr cs t) rfl rfl dX4_fieldAt_18 ?_
      refine lv_icmp_le (tgt := 24) hx hb dX4_fieldAt_19 (by decide) (fun c9 => ?_) (fun c9 => ?_)
      · replace h := h.1 c9
        refine lv_aload_n hx hb dX4_fieldAt_24 rfl (lv_at hl 0 rfl) ?_
        refine fr_get (j := 1) C hP (by omega) (fG_FC adr cs t) rfl (fun w h => List.mem_cons_of_mem _ (inl_X4 w h)) (by decide) rfl (List.mem_cons_of_mem _ mw_1_17) rfl dX4_fieldAt_25 ?_
        refine lv_iload_n hx hb dX4_fieldAt_28 rfl (lv_at hl 1 rfl) ?_
        refine lv_iconst (v := 1) hx hb dX4_fieldAt_29 (by decide) ?_
        refine lv_isub hx hb dX4_fieldAt_30 ?_
        refine fr_aaldF C hP (by omega) h.1 dX4_fieldAt_31 (fun i1 ei1 hi1 => ?_)
        replace h := h.2 i1 ei1
        refine lv_astore_n (lv' := [(2, .ref (adr i1)), (0, .ref (adr 0)), (1, .int a0)]) hx hb dX4_fieldAt_32 rfl hl (by decide) rfl (fun ls hl => ?_)
        refine lv_aload_n hx hb dX4_fieldAt_33 rfl (lv_at hl 0 rfl) ?_
        refine fr_cv (fr_runV (n := 0) (rest := []) C (c_X2_fit l D adr cs hN t i1 hi1 _ h) hP hS (by have := hi1.2.1; omega) (fG_FI adr cs t hi1) rfl (fgV mw_4_13 mw_4_14 mw_4_15 mw_2_2 mw_4_16) rfl rfl rfl (by decide +kernel) ⟨Nat.le_of_ble_eq_true rfl, Nat.le_of_ble_eq_true rfl⟩ rfl hl.1 rfl (Nat.le_of_ble_eq_true rfl) dX4_fieldAt_34) hS (fun t2 H locs h hP hS => ?_)
        refine lv_aload_n hx hb dX4_fieldAt_37 rfl (lv_at hl 0 rfl) ?_
        exact fr_aret C (some i1) (Or.inl ⟨_, rfl⟩) rfl hP hS h dX4_fieldAt_38
      · replace h := h.2 c9
        refine lv_null hx hb dX4_fieldAt_22 ?_
        exact fr_aret C none (Or.inl ⟨_, rfl⟩) rfl hP hS h dX4_fieldAt_23

/-! X4.start -/
abbrev wm_X4_start : List Cond := Cond.code yX4_start cX4_start 3 none :: wsL_law
def q_X4_start_69_rn (post : fcS → Prop) : Nat → Int32 → fcS → Prop
  | 0, _, _ => False
  | n + 1, v1, t => post t
def q_X4_start_69 (i5 : Nat) (post : fcS → Prop) : Nat → Int32 → fcS → Prop
  | 0, _, _ => False
  | n + 1, v1, t => (v1 ≤ (fgi t 0 7) → (post t)) ∧ (¬ v1 ≤ (fgi t 0 7) → (q_X2_squareSign t i5 ((fgi t 0 7)) (fun (r9 : Int32) (t8 : fcS) => (r9 = (-1) → (post t8)) ∧ (¬ r9 = (-1) → (∀ t10 : fcS, t10 = fsi t8 0 7 (((fgi t8 0 7) + 1)) → (q_X4_start_69 i5 post n v1 t10))))))
def q_X4_start_18 (post : fcS → Prop) : Nat → Int32 → fcS → Prop
  | 0, _, _ => False
  | n + 1, v1, t => (5 ≤ (fgi t 0 5) → (q_X4_fieldAt t 1 (fun (r : Option Nat) (t4 : fcS) => (r = none → (∀ t6 : fcS, t6 = fsi t4 0 7 1 → (∃ n0, q_X4_start_69_rn post n0 v1 t6))) ∧ (∀ i5 : Nat, r = some i5 → (fisF i5 ∧ (∀ t7 : fcS, t7 = fsi t4 0 7 1 → (∃ n0, q_X4_start_69 i5 post n0 v1 t7))))))) ∧ (¬ 5 ≤ (fgi t 0 5) → (q_X3_place t (((fgi t 0 5) + 1)) (fun (r12 : Int32) (t11 : fcS) => (343 < r12 → (q_X4_fieldAt t11 1 (fun (r : Option Nat) (t13 : fcS) => (r = none → (∀ t15 : fcS, t15 = fsi t13 0 7 1 → (∃ n0, q_X4_start_69_rn post n0 v1 t15))) ∧ (∀ i14 : Nat, r = some i14 → (fisF i14 ∧ (∀ t16 : fcS, t16 = fsi t13 0 7 1 → (∃ n0, q_X4_start_69 i14 post n0 v1 t16))))))) ∧ (¬ 343 < r12 → (∀ t17 : fcS, t17 = fsi t11 0 5 (((fgi t11 0 5) + 1)) → (q_X4_start_18 post n v1 t17))))))
def q_X4_start (t : fcS) (a0 : Int32) (post : fcS → Prop) : Prop := q_X3_begin t a0 (fun (t1 : fcS) => ∀ t2 : fcS, t2 = fsi t1 0 6 0 → (∀ t3 : fcS, t3 = fsi t2 0 5 1 → (∃ n0, q_X4_start_18 post n0 a0 t3)))
set_option maxHeartbeats 4000000 in
set_option maxRecDepth 100000 in
theorem k_X4_start_69_rn {D : va_G} {adr : Nat → Nat} {cs : Nat → ClassId} {N : Nat} (hN : 53 ≤ N) {p : Program} {l : Launch} {e : Env} {s : State} {m : MethodId} {args : Array Value} {below : List Frame} {meth : Method} {c : Code} (C : fCx D adr cs N p s m args meth c cX4_start 3 (none) RX4 wm_X4_start) {post : fcS → Prop} : ∀ (n : Nat) (v1 : Int32) (t : fcS) (H : Heap) (locs : List Loc) (ls : Array Slot), q_X4_start_69_rn post n v1 t → va_P D vwCl (fwl adr N (fG adr cs t)) H → va_S (faN adr N) s.heap H locs → lv_has ls 3 [(0, .ref (adr 0)), (1, .int v1), (2, .null)] → W p l e ({ frames := 5, cells := 0, slots := 0, locals := 123 } : Room) s m args below meth c H locs 0 0 (MQ below (fQv D adr cs N post) args s 0 0 (faN adr N)) (F0 m 69 ls []) := by
  have hx := C.1.1
  have hb := C.1.2.1
  intro n
  induction n with
  | zero => intro v1 t H locs ls h; exact False.elim h
  | succ n ih =>
    intro v1 t H locs ls h hP hS hl
    unfold q_X4_start_69_rn at h
    refine lv_aload_nN hx hb dX4_start_69 rfl (lv_at hl 2 rfl) ?_
    refine lv_ifnullN (tgt := 106) hx hb dX4_start_70 (by decide) ?_
    exact fr_vret C hP hS h dX4_start_106

set_option maxHeartbeats 4000000 in
set_option maxRecDepth 100000 in
theorem k_X4_start_69 {D : va_G} {adr : Nat → Nat} {cs : Nat → ClassId} {N : Nat} (hN : 53 ≤ N) {p : Program} {l : Launch} {e : Env} {s : State} {m : MethodId} {args : Array Value} {below : List Frame} {meth : Method} {c : Code} (C : fCx D adr cs N p s m args meth c cX4_start 3 (none) RX4 wm_X4_start) (i5 : Nat) (hi5 : fisF i5) {post : fcS → Prop} : ∀ (n : Nat) (v1 : Int32) (t : fcS) (H : Heap) (locs : List Loc) (ls : Array Slot), q_X4_start_69 i5 post n v1 t → va_P D vwCl (fwl adr N (fG adr cs t)) H → va_S (faN adr N) s.heap H locs → lv_has ls 3 [(0, .ref (adr 0)), (1, .int v1), (2, .ref (adr i5))] → W p l e ({ frames := 5, cells := 0, slots := 0, locals := 123 } : Room) s m args below meth c H locs 0 0 (MQ below (fQv D adr cs N post) args s 0 0 (faN adr N)) (F0 m 69 ls []) := by
  have hx := C.1.1
  have hb := C.1.2.1
  intro n
  induction n with
  | zero => intro v1 t H locs ls h; exact False.elim h
  | succ n ih =>
    intro v1 t H locs ls h hP hS hl
    unfold q_X4_start_69 at h
    refine lv_aload_n hx hb dX4_start_69 rfl (lv_at hl 2 rfl) ?_
    refine lv_ifnull hx hb dX4_start_70 ?_
    refine lv_aload_n hx hb dX4_start_73 rfl (lv_at hl 0 rfl) ?_
    refine fr_get (j := 7) C hP (by omega) (fG_FC adr cs t) rfl (fun w h => List.mem_cons_of_mem _ (inl_X4 w h)) (by decide) rfl (List.mem_cons_of_mem _ mw_3_20) rfl dX4_start_74 ?_
    refine lv_iload_n hx hb dX4_start_77 rfl (lv_at hl 1 rfl) ?_
    refine lv_icmp_ge (tgt := 106) hx hb dX4_start_78 (by decide) (fun c9 => ?_) (fun c9 => ?_)
    · replace h := h.1 c9
      exact fr_vret C hP hS h dX4_start_106
    · replace h := h.2 c9
      refine lv_aload_n hx hb dX4_start_81 rfl (lv_at hl 2 rfl) ?_
      refine lv_aload_n hx hb dX4_start_82 rfl (lv_at hl 0 rfl) ?_
      refine fr_get (j := 7) C hP (by omega) (fG_FC adr cs t) rfl (fun w h => List.mem_cons_of_mem _ (inl_X4 w h)) (by decide) rfl (List.mem_cons_of_mem _ mw_3_20) rfl dX4_start_83 ?_
      refine fr_ci (fr_runV (n := 1) (rest := []) C (c_X2_squareSign l D adr cs hN t i5 hi5 ((fgi t 0 7)) _ h) hP hS (by have := hi5.2.1; omega) (fG_FI adr cs t hi5) rfl (fgV mw_6_21 mw_6_22 mw_6_23 mw_2_2 mw_7_0) rfl rfl rfl (by decide +kernel) ⟨Nat.le_of_ble_eq_true rfl, Nat.le_of_ble_eq_true rfl⟩ rfl hl.1 rfl (Nat.le_of_ble_eq_true rfl) dX4_start_86) hS (fun r9 t8 H locs h hP hS => ?_)
      refine lv_iconst (v := (-1)) hx hb dX4_start_89 (by decide) ?_
      refine lv_icmp_eq (tgt := 106) hx hb dX4_start_90 (by decide) (fun c9 => ?_) (fun c9 => ?_)
      · replace h := h.1 c9
        exact fr_vret C hP hS h dX4_start_106
      · replace h := h.2 c9
        refine lv_aload_n hx hb dX4_start_93 rfl (lv_at hl 0 rfl) ?_
        refine lv_dup hx hb dX4_start_94 rfl ?_
        refine fr_get (j := 7) C hP (by omega) (fG_FC adr cs t8) rfl (fun w h => List.mem_cons_of_mem _ (inl_X4 w h)) (by decide) rfl (List.mem_cons_of_mem _ mw_3_20) rfl dX4_start_95 ?_
        refine lv_iconst (v := 1) hx hb dX4_start_98 (by decide) ?_
        refine lv_iadd hx hb dX4_start_99 ?_
        refine fr_put C (fsi t8 0 7 (((fgi t8 0 7) + 1))) (j := 7) (ty := .int) hP hS (by omega) (fG_FC adr cs t8) rfl (fun w h => List.mem_cons_of_mem _ (inl_X4 w h)) tyX4_ok nmX4 (by decide) rfl (List.mem_cons_of_mem _ mw_3_20) rfl (by decide +kernel) rfl rfl (Nat.le_of_ble_eq_true rfl) (fS_FC_7 adr cs t8 (((fgi t8 0 7) + 1))) (fG_fsi_ne adr cs t8 0 7 (((fgi t8 0 7) + 1))) dX4_start_100 (fun H locs hP hS => ?_)
        obtain ⟨t10, et10⟩ : ∃ y : fcS, y = fsi t8 0 7 (((fgi t8 0 7) + 1)) := ⟨_, rfl⟩
        rw [← et10] at hP
        replace h := h t10 et10
        refine lv_goto (tgt := 69) hx hb dX4_start_103 (by decide) ?_
        exact ih v1 t10 _ _ _ h hP hS (lv_sub hl [0, 1, 2] rfl)

set_option maxHeartbeats 4000000 in
set_option maxRecDepth 100000 in
theorem k_X4_start_18 {D : va_G} {adr : Nat → Nat} {cs : Nat → ClassId} {N : Nat} (hN : 53 ≤ N) {p : Program} {l : Launch} {e : Env} {s : State} {m : MethodId} {args : Array Value} {below : List Frame} {meth : Method} {c : Code} (C : fCx D adr cs N p s m args meth c cX4_start 3 (none) RX4 wm_X4_start) {post : fcS → Prop} : ∀ (n : Nat) (v1 : Int32) (t : fcS) (H : Heap) (locs : List Loc) (ls : Array Slot), q_X4_start_18 post n v1 t → va_P D vwCl (fwl adr N (fG adr cs t)) H → va_S (faN adr N) s.heap H locs → lv_has ls 3 [(0, .ref (adr 0)), (1, .int v1)] → W p l e ({ frames := 5, cells := 0, slots := 0, locals := 123 } : Room) s m args below meth c H locs 0 0 (MQ below (fQv D adr cs N post) args s 0 0 (faN adr N)) (F0 m 18 ls []) := by
  have hx := C.1.1
  have hb := C.1.2.1
  intro n
  induction n with
  | zero => intro v1 t H locs ls h; exact False.elim h
  | succ n ih =>
    intro v1 t H locs ls h hP hS hl
    unfold q_X4_start_18 at h
    refine lv_aload_n hx hb dX4_start_18 rfl (lv_at hl 0 rfl) ?_
    refine fr_get (j := 5) C hP (by omega) (fG_FC adr cs t) rfl (fun w h => List.mem_cons_of_mem _ (inl_X4 w h)) (by decide) rfl (List.mem_cons_of_mem _ mw_3_19) rfl dX4_start_19 ?_
    refine lv_iconst (v := 5) hx hb dX4_start_22 (by decide) ?_
    refine lv_icmp_ge (tgt := 58) hx hb dX4_start_23 (by decide) (fun c9 => ?_) (fun c9 => ?_)
    · replace h := h.1 c9
      refine lv_aload_n hx hb dX4_start_58 rfl (lv_at hl 0 rfl) ?_
      refine lv_iconst (v := 1) hx hb dX4_start_59 (by decide) ?_
      refine fr_cq (fr_runV (n := 1) (rest := []) C (c_X4_fieldAt l D adr cs hN t 1 _ h) hP hS (by omega) (fG_FC adr cs t) rfl (fgV mw_4_9 mw_4_10 mw_4_11 mw_1_2 mw_4_12) rfl rfl rfl (by decide +kernel) ⟨Nat.le_of_ble_eq_true rfl, Nat.le_of_ble_eq_true rfl⟩ rfl hl.1 rfl (Nat.le_of_ble_eq_true rfl) dX4_start_60) hS (fun t4 H locs h hP hS => ?_) (fun i5 t4 H locs h hP hS => ?_)
      · replace h := h.1 rfl
        refine lv_astore_nN (lv' := [(2, .null), (0, .ref (adr 0)), (1, .int v1)]) hx hb dX4_start_63 rfl hl (by decide) rfl (fun ls hl => ?_)
        refine lv_aload_n hx hb dX4_start_64 rfl (lv_at hl 1 rfl) ?_
        refine lv_iconst (v := 1) hx hb dX4_start_65 (by decide) ?_
        refine fr_put C (fsi t4 0 7 1) (j := 7) (ty := .int) hP hS (by omega) (fG_FC adr cs t4) rfl (fun w h => List.mem_cons_of_mem _ (inl_X4 w h)) tyX4_ok nmX4 (by decide) rfl (List.mem_cons_of_mem _ mw_3_20) rfl (by decide +kernel) rfl rfl (Nat.le_of_ble_eq_true rfl) (fS_FC_7 adr cs t4 1) (fG_fsi_ne adr cs t4 0 7 1) dX4_start_66 (fun H locs hP hS => ?_)
        obtain ⟨t6, et6⟩ : ∃ y : fcS, y = fsi t4 0 7 1 := ⟨_, rfl⟩
        rw [← et6] at hP
        replace h := h t6 et6
        obtain ⟨n9, h⟩ := h
        exact k_X4_start_69_rn hN C n9 v1 t6 _ _ _ h hP hS (lv_sub hl [1, 2, 0] rfl)
      · obtain ⟨hi5, h⟩ := h.2 i5 rfl
        refine lv_astore_n (lv' := [(2, .ref (adr i5)), (0, .ref (adr 0)), (1, .int v1)]) hx hb dX4_start_63 rfl hl (by decide) rfl (fun ls hl => ?_)
        refine lv_aload_n hx hb dX4_start_64 rfl (lv_at hl 1 rfl) ?_
        refine lv_iconst (v := 1) hx hb dX4_start_65 (by decide) ?_
        refine fr_put C (fsi t4 0 7 1) (j := 7) (ty := .int) hP hS (by omega) (fG_FC adr cs t4) rfl (fun w h => List.mem_cons_of_mem _ (inl_X4 w h)) tyX4_ok nmX4 (by decide) rfl (List.mem_cons_of_mem _ mw_3_20) rfl (by decide +kernel) rfl rfl (Nat.le_of_ble_eq_true rfl) (fS_FC_7 adr cs t4 1) (fG_fsi_ne adr cs t4 0 7 1) dX4_start_66 (fun H locs hP hS => ?_)
        obtain ⟨t7, et7⟩ : ∃ y : fcS, y = fsi t4 0 7 1 := ⟨_, rfl⟩
        rw [← et7] at hP
        replace h := h t7 et7
        obtain ⟨n9, h⟩ := h
        exact k_X4_start_69 hN C i5 hi5 n9 v1 t7 _ _ _ h hP hS (lv_sub hl [1, 2, 0] rfl)
    · replace h := h.2 c9
      refine lv_aload_n hx hb dX4_start_26 rfl (lv_at hl 0 rfl) ?_
      refine fr_get (j := 0) C hP (by omega) (fG_FC adr cs t) rfl (fun w h => List.mem_cons_of_mem _ (inl_X4 w h)) (by decide) rfl (List.mem_cons_of_mem _ mw_1_15) rfl dX4_start_27 ?_
      refine lv_aload_n hx hb dX4_start_30 rfl (lv_at hl 0 rfl) ?_
      refine fr_get (j := 5) C hP (by omega) (fG_FC adr cs t) rfl (fun w h => List.mem_cons_of_mem _ (inl_X4 w h)) (by decide) rfl (List.mem_cons_of_mem _ mw_3_19) rfl dX4_start_31 ?_
      refine lv_iconst (v := 1) hx hb dX4_start_34 (by decide) ?_
      refine lv_iadd hx hb dX4_start_35 ?_
      refine fr_ci (fr_runV (n := 1) (rest := []) C (c_X3_place l D adr cs hN t (((fgi t 0 5) + 1)) _ h) hP hS (by omega) (fG_PO adr cs t) rfl (fgV mw_4_5 mw_4_6 mw_4_7 mw_1_14 mw_4_8) rfl rfl rfl (by decide +kernel) ⟨Nat.le_of_ble_eq_true rfl, Nat.le_of_ble_eq_true rfl⟩ rfl hl.1 rfl (Nat.le_of_ble_eq_true rfl) dX4_start_36) hS (fun r12 t11 H locs h hP hS => ?_)
      refine lv_sipush (v := 343) hx hb dX4_start_39 (by decide) ?_
      refine lv_icmp_gt (tgt := 58) hx hb dX4_start_42 (by decide) (fun c9 => ?_) (fun c9 => ?_)
      · replace h := h.1 c9
        refine lv_aload_n hx hb dX4_start_58 rfl (lv_at hl 0 rfl) ?_
        refine lv_iconst (v := 1) hx hb dX4_start_59 (by decide) ?_
        refine fr_cq (fr_runV (n := 1) (rest := []) C (c_X4_fieldAt l D adr cs hN t11 1 _ h) hP hS (by omega) (fG_FC adr cs t11) rfl (fgV mw_4_9 mw_4_10 mw_4_11 mw_1_2 mw_4_12) rfl rfl rfl (by decide +kernel) ⟨Nat.le_of_ble_eq_true rfl, Nat.le_of_ble_eq_true rfl⟩ rfl hl.1 rfl (Nat.le_of_ble_eq_true rfl) dX4_start_60) hS (fun t13 H locs h hP hS => ?_) (fun i14 t13 H locs h hP hS => ?_)
        · replace h := h.1 rfl
          refine lv_astore_nN (lv' := [(2, .null), (0, .ref (adr 0)), (1, .int v1)]) hx hb dX4_start_63 rfl hl (by decide) rfl (fun ls hl => ?_)
          refine lv_aload_n hx hb dX4_start_64 rfl (lv_at hl 1 rfl) ?_
          refine lv_iconst (v := 1) hx hb dX4_start_65 (by decide) ?_
          refine fr_put C (fsi t13 0 7 1) (j := 7) (ty := .int) hP hS (by omega) (fG_FC adr cs t13) rfl (fun w h => List.mem_cons_of_mem _ (inl_X4 w h)) tyX4_ok nmX4 (by decide) rfl (List.mem_cons_of_mem _ mw_3_20) rfl (by decide +kernel) rfl rfl (Nat.le_of_ble_eq_true rfl) (fS_FC_7 adr cs t13 1) (fG_fsi_ne adr cs t13 0 7 1) dX4_start_66 (fun H locs hP hS => ?_)
          obtain ⟨t15, et15⟩ : ∃ y : fcS, y = fsi t13 0 7 1 := ⟨_, rfl⟩
          rw [← et15] at hP
          replace h := h t15 et15
          obtain ⟨n9, h⟩ := h
          exact k_X4_start_69_rn hN C n9 v1 t15 _ _ _ h hP hS (lv_sub hl [1, 2, 0] rfl)
        · obtain ⟨hi14, h⟩ := h.2 i14 rfl
          refine lv_astore_n (lv' := [(2, .ref (adr i14)), (0, .ref (adr 0)), (1, .int v1)]) hx hb dX4_start_63 rfl hl (by decide) rfl (fun ls hl => ?_)
          refine lv_aload_n hx hb dX4_start_64 rfl (lv_at hl 1 rfl) ?_
          refine lv_iconst (v := 1) hx hb dX4_start_65 (by decide) ?_
          refine fr_put C (fsi t13 0 7 1) (j := 7) (ty := .int) hP hS (by omega) (fG_FC adr cs t13) rfl (fun w h => List.mem_cons_of_mem _ (inl_X4 w h)) tyX4_ok nmX4 (by decide) rfl (List.mem_cons_of_mem _ mw_3_20) rfl (by decide +kernel) rfl rfl (Nat.le_of_ble_eq_true rfl) (fS_FC_7 adr cs t13 1) (fG_fsi_ne adr cs t13 0 7 1) dX4_start_66 (fun H locs hP hS => ?_)
          obtain ⟨t16, et16⟩ : ∃ y : fcS, y = fsi t13 0 7 1 := ⟨_, rfl⟩
          rw [← et16] at hP
          replace h := h t16 et16
          obtain ⟨n9, h⟩ := h
          exact k_X4_start_69 hN C i14 hi14 n9 v1 t16 _ _ _ h hP hS (lv_sub hl [1, 2, 0] rfl)
      · replace h := h.2 c9
        refine lv_aload_n hx hb dX4_start_45 rfl (lv_at hl 0 rfl) ?_
        refine lv_dup hx hb dX4_start_46 rfl ?_
        refine fr_get (j := 5) C hP (by omega) (fG_FC adr cs t11) rfl (fun w h => List.mem_cons_of_mem _ (inl_X4 w h)) (by decide) rfl (List.mem_cons_of_mem _ mw_3_19) rfl dX4_start_47 ?_
        refine lv_iconst (v := 1) hx hb dX4_start_50 (by decide) ?_
        refine lv_iadd hx hb dX4_start_51 ?_
        refine fr_put C (fsi t11 0 5 (((fgi t11 0 5) + 1))) (j := 5) (ty := .int) hP hS (by omega) (fG_FC adr cs t11) rfl (fun w h => List.mem_cons_of_mem _ (inl_X4 w h)) tyX4_ok nmX4 (by decide) rfl (List.mem_cons_of_mem _ mw_3_19) rfl (by decide +kernel) rfl rfl (Nat.le_of_ble_eq_true rfl) (fS_FC_5 adr cs t11 (((fgi t11 0 5) + 1))) (fG_fsi_ne adr cs t11 0 5 (((fgi t11 0 5) + 1))) dX4_start_52 (fun H locs hP hS => ?_)
        obtain ⟨t17, et17⟩ : ∃ y : fcS, y = fsi t11 0 5 (((fgi t11 0 5) + 1)) := ⟨_, rfl⟩
        rw [← et17] at hP
        replace h := h t17 et17
        refine lv_goto (tgt := 18) hx hb dX4_start_55 (by decide) ?_
        exact ih v1 t17 _ _ _ h hP hS (lv_sub hl [0, 1] rfl)

set_option maxHeartbeats 4000000 in
set_option maxRecDepth 100000 in
theorem c_X4_start (l : Launch) (D : va_G) (adr : Nat → Nat) (cs : Nat → ClassId) {N : Nat} (hN : 53 ≤ N) (t : fcS) (a0 : Int32) (post : fcS → Prop) (h : q_X4_start t a0 post) : Met l yX4_start wm_X4_start ({ frames := 5, cells := 0, slots := 0, locals := 123 } : Room) (fcPre D adr cs N t [.ref (adr 0), .int a0]) (fQv D adr cs N post) 0 0 (faN adr N) := by
  refine f_enter (cc := cX4_start) (nL := 3) (ret := none) (lv := [(0, .ref (adr 0)), (1, .int a0)]) (own := RX4) (by decide) rfl (Nat.le_of_ble_eq_true rfl) rfl rfl ?_
  intro p e s m below meth c ls C hP hS hl
  have hx := C.1.1
  have hb := C.1.2.1
  unfold q_X4_start at h
  refine lv_aload_n hx hb dX4_start_0 rfl (lv_at hl 0 rfl) ?_
  refine fr_get (j := 0) C hP (by omega) (fG_FC adr cs t) rfl (fun w h => List.mem_cons_of_mem _ (inl_X4 w h)) (by decide) rfl (List.mem_cons_of_mem _ mw_1_15) rfl dX4_start_1 ?_
  refine lv_iload_n hx hb dX4_start_4 rfl (lv_at hl 1 rfl) ?_
  refine fr_cv (fr_runV (n := 1) (rest := []) C (c_X3_begin l D adr cs hN t a0 _ h) hP hS (by omega) (fG_PO adr cs t) rfl (fgV mw_3_21 mw_3_22 mw_3_23 mw_1_14 mw_4_0) rfl rfl rfl (by decide +kernel) ⟨Nat.le_of_ble_eq_true rfl, Nat.le_of_ble_eq_true rfl⟩ rfl hl.1 rfl (Nat.le_of_ble_eq_true rfl) dX4_start_5) hS (fun t1 H locs h hP hS => ?_)
  refine lv_aload_n hx hb dX4_start_8 rfl (lv_at hl 0 rfl) ?_
  refine lv_iconst (v := 0) hx hb dX4_start_9 (by decide) ?_
  refine fr_put C (fsi t1 0 6 0) (j := 6) (ty := .int) hP hS (by omega) (fG_FC adr cs t1) rfl (fun w h => List.mem_cons_of_mem _ (inl_X4 w h)) tyX4_ok nmX4 (by decide) rfl (List.mem_cons_of_mem _ mw_3_18) rfl (by decide +kernel) rfl rfl (Nat.le_of_ble_eq_true rfl) (fS_FC_6 adr cs t1 0) (fG_fsi_ne adr cs t1 0 6 0) dX4_start_10 (fun H locs hP hS => ?_)
  obtain ⟨t2, et2⟩ : ∃ y : fcS, y = fsi t1 0 6 0 := ⟨_, rfl⟩
  rw [← et2] at hP
  replace h := h t2 et2
  refine lv_aload_n hx hb dX4_start_13 rfl (lv_at hl 0 rfl) ?_
  refine lv_iconst (v := 1) hx hb dX4_start_14 (by decide) ?_
  refine fr_put C (fsi t2 0 5 1) (j := 5) (ty := .int) hP hS (by omega) (fG_FC adr cs t2) rfl (fun w h => List.mem_cons_of_mem _ (inl_X4 w h)) tyX4_ok nmX4 (by decide) rfl (List.mem_cons_of_mem _ mw_3_19) rfl (by decide +kernel) rfl rfl (Nat.le_of_ble_eq_true rfl) (fS_FC_5 adr cs t2 1) (fG_fsi_ne adr cs t2 0 5 1) dX4_start_15 (fun H locs hP hS => ?_)
  obtain ⟨t3, et3⟩ : ∃ y : fcS, y = fsi t2 0 5 1 := ⟨_, rfl⟩
  rw [← et3] at hP
  replace h := h t3 et3
  obtain ⟨n9, h⟩ := h
  exact k_X4_start_18 hN C n9 a0 t3 _ _ _ h hP hS (lv_sub hl [0, 1] rfl)

/-! X4.prime -/
abbrev wm_X4_prime : List Cond := Cond.code yX4_prime cX4_prime 6 (some .int) :: wsL_law
def q_X4_prime_10 (post : Int32 → fcS → Prop) : Nat → Int32 → Int32 → Int32 → fcS → Prop
  | 0, _, _, _, _ => False
  | n + 1, v1, v3, v4, t => (v3 ≤ v4 → (post ((-1)) t)) ∧ (¬ v3 ≤ v4 → ((vp_in v4 5) ∧ (∀ x1 : Int32, x1 = (fPR (Int32.toNatClampNeg v4)) → ((¬ x1 = v1 → (∀ x2 : Int32, x2 = v4 + 1 → (q_X4_prime_10 post n v1 v3 x2 t))) ∧ (x1 = v1 → (q_X4_start t v1 (fun (t3 : fcS) => post ((fgi t3 0 5)) t3)))))))
def q_X4_prime (t : fcS) (a0 : Int32) (post : Int32 → fcS → Prop) : Prop := ∃ n0, q_X4_prime_10 post n0 a0 5 0 t
set_option maxHeartbeats 4000000 in
set_option maxRecDepth 100000 in
theorem k_X4_prime_10 {D : va_G} {adr : Nat → Nat} {cs : Nat → ClassId} {N : Nat} (hN : 53 ≤ N) {p : Program} {l : Launch} {e : Env} {s : State} {m : MethodId} {args : Array Value} {below : List Frame} {meth : Method} {c : Code} (C : fCx D adr cs N p s m args meth c cX4_prime 6 (some .int) RX4 wm_X4_prime) {post : Int32 → fcS → Prop} : ∀ (n : Nat) (v1 : Int32) (v3 : Int32) (v4 : Int32) (t : fcS) (H : Heap) (locs : List Loc) (ls : Array Slot), q_X4_prime_10 post n v1 v3 v4 t → va_P D vwCl (fwl adr N (fG adr cs t)) H → va_S (faN adr N) s.heap H locs → lv_has ls 6 [(0, .ref (adr 0)), (1, .int v1), (2, .ref (adr 100)), (3, .int v3), (4, .int v4)] → W p l e ({ frames := 6, cells := 0, slots := 0, locals := 145 } : Room) s m args below meth c H locs 0 0 (MQ below (fQi D adr cs N post) args s 0 0 (faN adr N)) (F0 m 10 ls []) := by
  have hx := C.1.1
  have hb := C.1.2.1
  intro n
  induction n with
  | zero => intro v1 v3 v4 t H locs ls h; exact False.elim h
  | succ n ih =>
    intro v1 v3 v4 t H locs ls h hP hS hl
    unfold q_X4_prime_10 at h
    refine lv_iload hx hb dX4_prime_10 (lv_at hl 4 rfl) ?_
    refine lv_iload_n hx hb dX4_prime_12 rfl (lv_at hl 3 rfl) ?_
    refine lv_icmp_ge (tgt := 44) hx hb dX4_prime_13 (by decide) (fun c9 => ?_) (fun c9 => ?_)
    · replace h := h.1 c9
      refine lv_iconst (v := (-1)) hx hb dX4_prime_44 (by decide) ?_
      exact fr_iret C hP hS h dX4_prime_45
    · replace h := h.2 c9
      refine lv_aload_n hx hb dX4_prime_16 rfl (lv_at hl 2 rfl) ?_
      refine lv_iload hx hb dX4_prime_17 (lv_at hl 4 rfl) ?_
      refine va_ti hx hb C.2.2.2.2.2.2.1.2 hS h.1 rfl dX4_prime_19 ?_
      replace h := h.2
      refine lv_topi (fun x1 ex1 => ?_)
      replace h := h x1 ex1
      refine lv_istore (lv' := [(5, .int x1), (0, .ref (adr 0)), (1, .int v1), (2, .ref (adr 100)), (3, .int v3), (4, .int v4)]) hx hb dX4_prime_20 hl (by decide) rfl (fun ls hl => ?_)
      refine lv_iload hx hb dX4_prime_22 (lv_at hl 0 rfl) ?_
      refine lv_iload_n hx hb dX4_prime_24 rfl (lv_at hl 2 rfl) ?_
      refine lv_icmp_ne (tgt := 38) hx hb dX4_prime_25 (by decide) (fun c9 => ?_) (fun c9 => ?_)
      · replace h := h.1 c9
        obtain ⟨x2, ex2⟩ : ∃ y : Int32, y = v4 + 1 := ⟨_, rfl⟩
        replace h := h x2 ex2
        refine lv_iinc (v := x2) (lv' := [(4, .int x2), (5, .int x1), (0, .ref (adr 0)), (1, .int v1), (2, .ref (adr 100)), (3, .int v3)]) hx hb dX4_prime_38 hl (k := 5) rfl (by rw [ex2]; rfl) (by decide) rfl (fun ls hl => ?_)
        refine lv_goto (tgt := 10) hx hb dX4_prime_41 (by decide) ?_
        exact ih v1 v3 x2 t _ _ _ h hP hS (lv_sub hl [2, 3, 4, 5, 0] rfl)
      · replace h := h.2 c9
        refine lv_aload_n hx hb dX4_prime_28 rfl (lv_at hl 1 rfl) ?_
        refine lv_iload_n hx hb dX4_prime_29 rfl (lv_at hl 2 rfl) ?_
        refine fr_cv (fr_runV (n := 1) (rest := []) C (c_X4_start l D adr cs hN t v1 _ h) hP hS (by omega) (fG_FC adr cs t) rfl (fgV mw_3_14 mw_3_15 mw_3_16 mw_1_2 mw_3_17) rfl rfl rfl (by decide +kernel) ⟨Nat.le_of_ble_eq_true rfl, Nat.le_of_ble_eq_true rfl⟩ rfl hl.1 rfl (Nat.le_of_ble_eq_true rfl) dX4_prime_30) hS (fun t3 H locs h hP hS => ?_)
        refine lv_aload_n hx hb dX4_prime_33 rfl (lv_at hl 1 rfl) ?_
        refine fr_get (j := 5) C hP (by omega) (fG_FC adr cs t3) rfl (fun w h => List.mem_cons_of_mem _ (inl_X4 w h)) (by decide) rfl (List.mem_cons_of_mem _ mw_3_19) rfl dX4_prime_34 ?_
        exact fr_iret C hP hS h dX4_prime_37

set_option maxHeartbeats 4000000 in
set_option maxRecDepth 100000 in
theorem c_X4_prime (l : Launch) (D : va_G) (adr : Nat → Nat) (cs : Nat → ClassId) {N : Nat} (hN : 53 ≤ N) (t : fcS) (a0 : Int32) (post : Int32 → fcS → Prop) (h : q_X4_prime t a0 post) : Met l yX4_prime wm_X4_prime ({ frames := 6, cells := 0, slots := 0, locals := 145 } : Room) (fcPre D adr cs N t [.ref (adr 0), .int a0]) (fQi D adr cs N post) 0 0 (faN adr N) := by
  refine f_enter (cc := cX4_prime) (nL := 6) (ret := some .int) (lv := [(0, .ref (adr 0)), (1, .int a0)]) (own := RX4) (by decide) rfl (Nat.le_of_ble_eq_true rfl) rfl rfl ?_
  intro p e s m below meth c ls C hP hS hl
  have hx := C.1.1
  have hb := C.1.2.1
  unfold q_X4_prime at h
  refine va_gets hx hb C.2.2.2.2.2.2.1.1 hS C.1.2.2.2.1 (C.1.2.2.2.2 _ (List.mem_cons_of_mem _ mw_10_9)) (fun _ h9 => h9) dX4_prime_0 ?_
  refine lv_astore_n (lv' := [(2, .ref (adr 100)), (0, .ref (adr 0)), (1, .int a0)]) hx hb dX4_prime_3 rfl hl (by decide) rfl (fun ls hl => ?_)
  refine lv_aload_n hx hb dX4_prime_4 rfl (lv_at hl 0 rfl) ?_
  refine va_tlen (v := 5) hx hb C.2.2.2.2.2.2.1.2 hS (by decide) dX4_prime_5 ?_
  refine lv_istore_n (lv' := [(3, .int 5), (2, .ref (adr 100)), (0, .ref (adr 0)), (1, .int a0)]) hx hb dX4_prime_6 rfl hl (by decide) rfl (fun ls hl => ?_)
  refine lv_iconst (v := 0) hx hb dX4_prime_7 (by decide) ?_
  refine lv_istore (lv' := [(4, .int 0), (3, .int 5), (2, .ref (adr 100)), (0, .ref (adr 0)), (1, .int a0)]) hx hb dX4_prime_8 hl (by decide) rfl (fun ls hl => ?_)
  obtain ⟨n9, h⟩ := h
  exact k_X4_prime_10 hN C n9 a0 5 0 t _ _ _ h hP hS (lv_sub hl [3, 4, 2, 1, 0] rfl)

/-! X4.size -/
abbrev wm_X4_size : List Cond := Cond.code yX4_size cX4_size 3 (some .int) :: wsL_law
def q_X4_size (t : fcS) (a0 : Int32) (post : Int32 → fcS → Prop) : Prop := q_X4_fieldAt t a0 (fun (r : Option Nat) (t1 : fcS) => (r = none → (post ((-1)) t1)) ∧ (∀ i2 : Nat, r = some i2 → (fisF i2 ∧ (post ((fgi t1 i2 5)) t1))))
set_option maxHeartbeats 4000000 in
set_option maxRecDepth 100000 in
theorem c_X4_size (l : Launch) (D : va_G) (adr : Nat → Nat) (cs : Nat → ClassId) {N : Nat} (hN : 53 ≤ N) (t : fcS) (a0 : Int32) (post : Int32 → fcS → Prop) (h : q_X4_size t a0 post) : Met l yX4_size wm_X4_size ({ frames := 5, cells := 0, slots := 0, locals := 123 } : Room) (fcPre D adr cs N t [.ref (adr 0), .int a0]) (fQi D adr cs N post) 0 0 (faN adr N) := by
  refine f_enter (cc := cX4_size) (nL := 3) (ret := some .int) (lv := [(0, .ref (adr 0)), (1, .int a0)]) (own := RX4) (by decide) rfl (Nat.le_of_ble_eq_true rfl) rfl rfl ?_
  intro p e s m below meth c ls C hP hS hl
  have hx := C.1.1
  have hb := C.1.2.1
  unfold q_X4_size at h
  refine lv_aload_n hx hb dX4_size_0 rfl (lv_at hl 0 rfl) ?_
  refine lv_iload_n hx hb dX4_size_1 rfl (lv_at hl 1 rfl) ?_
  refine fr_cq (fr_runV (n := 1) (rest := []) C (c_X4_fieldAt l D adr cs hN t a0 _ h) hP hS (by omega) (fG_FC adr cs t) rfl (fgV mw_4_9 mw_4_10 mw_4_11 mw_1_2 mw_4_12) rfl rfl rfl (by decide +kernel) ⟨Nat.le_of_ble_eq_true rfl, Nat.le_of_ble_eq_true rfl⟩ rfl hl.1 rfl (Nat.le_of_ble_eq_true rfl) dX4_size_2) hS (fun t1 H locs h hP hS => ?_) (fun i2 t1 H locs h hP hS => ?_)
  · replace h := h.1 rfl
    refine lv_astore_nN (lv' := [(2, .null), (0, .ref (adr 0)), (1, .int a0)]) hx hb dX4_size_5 rfl hl (by decide) rfl (fun ls hl => ?_)
    refine lv_aload_nN hx hb dX4_size_6 rfl (lv_at hl 0 rfl) ?_
    refine lv_ifnonnullN hx hb dX4_size_7 ?_
    refine lv_iconst (v := (-1)) hx hb dX4_size_10 (by decide) ?_
    refine lv_goto (tgt := 18) hx hb dX4_size_11 (by decide) ?_
    exact fr_iret C hP hS h dX4_size_18
  · obtain ⟨hi2, h⟩ := h.2 i2 rfl
    refine lv_astore_n (lv' := [(2, .ref (adr i2)), (0, .ref (adr 0)), (1, .int a0)]) hx hb dX4_size_5 rfl hl (by decide) rfl (fun ls hl => ?_)
    refine lv_aload_n hx hb dX4_size_6 rfl (lv_at hl 0 rfl) ?_
    refine lv_ifnonnull (tgt := 14) hx hb dX4_size_7 (by decide) ?_
    refine lv_aload_n hx hb dX4_size_14 rfl (lv_at hl 0 rfl) ?_
    refine fr_getN (j := 5) C hP (by have := hi2.2.1; omega) (fG_FI adr cs t1 hi2) rfl (fun w h => List.mem_cons_of_mem _ (inl_X2 w h)) (by decide) rfl (by decide +kernel) rfl dX4_size_15 ?_
    exact fr_iret C hP hS h dX4_size_18

/-! X4.modulus -/
abbrev wm_X4_modulus : List Cond := Cond.code yX4_modulus cX4_modulus 3 (some .int) :: wsL_law
def q_X4_modulus (t : fcS) (a0 : Int32) (post : Int32 → fcS → Prop) : Prop := q_X4_fieldAt t a0 (fun (r : Option Nat) (t1 : fcS) => (r = none → (post ((-1)) t1)) ∧ (∀ i2 : Nat, r = some i2 → (fisF i2 ∧ (post ((fgi t1 i2 7)) t1))))
set_option maxHeartbeats 4000000 in
set_option maxRecDepth 100000 in
theorem c_X4_modulus (l : Launch) (D : va_G) (adr : Nat → Nat) (cs : Nat → ClassId) {N : Nat} (hN : 53 ≤ N) (t : fcS) (a0 : Int32) (post : Int32 → fcS → Prop) (h : q_X4_modulus t a0 post) : Met l yX4_modulus wm_X4_modulus ({ frames := 5, cells := 0, slots := 0, locals := 123 } : Room) (fcPre D adr cs N t [.ref (adr 0), .int a0]) (fQi D adr cs N post) 0 0 (faN adr N) := by
  refine f_enter (cc := cX4_modulus) (nL := 3) (ret := some .int) (lv := [(0, .ref (adr 0)), (1, .int a0)]) (own := RX4) (by decide) rfl (Nat.le_of_ble_eq_true rfl) rfl rfl ?_
  intro p e s m below meth c ls C hP hS hl
  have hx := C.1.1
  have hb := C.1.2.1
  unfold q_X4_modulus at h
  refine lv_aload_n hx hb dX4_modulus_0 rfl (lv_at hl 0 rfl) ?_
  refine lv_iload_n hx hb dX4_modulus_1 rfl (lv_at hl 1 rfl) ?_
  refine fr_cq (fr_runV (n := 1) (rest := []) C (c_X4_fieldAt l D adr cs hN t a0 _ h) hP hS (by omega) (fG_FC adr cs t) rfl (fgV mw_4_9 mw_4_10 mw_4_11 mw_1_2 mw_4_12) rfl rfl rfl (by decide +kernel) ⟨Nat.le_of_ble_eq_true rfl, Nat.le_of_ble_eq_true rfl⟩ rfl hl.1 rfl (Nat.le_of_ble_eq_true rfl) dX4_modulus_2) hS (fun t1 H locs h hP hS => ?_) (fun i2 t1 H locs h hP hS => ?_)
  · replace h := h.1 rfl
    refine lv_astore_nN (lv' := [(2, .null), (0, .ref (adr 0)), (1, .int a0)]) hx hb dX4_modulus_5 rfl hl (by decide) rfl (fun ls hl => ?_)
    refine lv_aload_nN hx hb dX4_modulus_6 rfl (lv_at hl 0 rfl) ?_
    refine lv_ifnonnullN hx hb dX4_modulus_7 ?_
    refine lv_iconst (v := (-1)) hx hb dX4_modulus_10 (by decide) ?_
    refine lv_goto (tgt := 18) hx hb dX4_modulus_11 (by decide) ?_
    exact fr_iret C hP hS h dX4_modulus_18
  · obtain ⟨hi2, h⟩ := h.2 i2 rfl
    refine lv_astore_n (lv' := [(2, .ref (adr i2)), (0, .ref (adr 0)), (1, .int a0)]) hx hb dX4_modulus_5 rfl hl (by decide) rfl (fun ls hl => ?_)
    refine lv_aload_n hx hb dX4_modulus_6 rfl (lv_at hl 0 rfl) ?_
    refine lv_ifnonnull (tgt := 14) hx hb dX4_modulus_7 (by decide) ?_
    refine lv_aload_n hx hb dX4_modulus_14 rfl (lv_at hl 0 rfl) ?_
    refine fr_getN (j := 7) C hP (by have := hi2.2.1; omega) (fG_FI adr cs t1 hi2) rfl (fun w h => List.mem_cons_of_mem _ (inl_X2 w h)) (by decide) rfl (by decide +kernel) rfl dX4_modulus_15 ?_
    exact fr_iret C hP hS h dX4_modulus_18

/-! X4.plus -/
abbrev wm_X4_plus : List Cond := Cond.code yX4_plus cX4_plus 5 (some .int) :: wsL_law
def q_X4_plus (t : fcS) (a0 : Int32) (a1 : Int32) (a2 : Int32) (post : Int32 → fcS → Prop) : Prop := q_X4_fieldAt t a0 (fun (r : Option Nat) (t1 : fcS) => (r = none → (post ((-1)) t1)) ∧ (∀ i2 : Nat, r = some i2 → (fisF i2 ∧ (q_X2_has t1 i2 a1 (fun (r4 : Int32) (t3 : fcS) => (r4 = 0 → (post ((-1)) t3)) ∧ (¬ r4 = 0 → (q_X2_has t3 i2 a2 (fun (r6 : Int32) (t5 : fcS) => (¬ r6 = 0 → (q_X3_sum t5 a1 a2 (fun (r8 : Int32) (t7 : fcS) => post r8 t7))) ∧ (r6 = 0 → (post ((-1)) t5))))))))))
set_option maxHeartbeats 4000000 in
set_option maxRecDepth 100000 in
theorem c_X4_plus (l : Launch) (D : va_G) (adr : Nat → Nat) (cs : Nat → ClassId) {N : Nat} (hN : 53 ≤ N) (t : fcS) (a0 : Int32) (a1 : Int32) (a2 : Int32) (post : Int32 → fcS → Prop) (h : q_X4_plus t a0 a1 a2 post) : Met l yX4_plus wm_X4_plus ({ frames := 5, cells := 0, slots := 0, locals := 123 } : Room) (fcPre D adr cs N t [.ref (adr 0), .int a0, .int a1, .int a2]) (fQi D adr cs N post) 0 0 (faN adr N) := by
  refine f_enter (cc := cX4_plus) (nL := 5) (ret := some .int) (lv := [(0, .ref (adr 0)), (1, .int a0), (2, .int a1), (3, .int a2)]) (own := RX4) (by decide) rfl (Nat.le_of_ble_eq_true rfl) rfl rfl ?_
  intro p e s m below meth c ls C hP hS hl
  have hx := C.1.1
  have hb := C.1.2.1
  unfold q_X4_plus at h
  refine lv_aload_n hx hb dX4_plus_0 rfl (lv_at hl 0 rfl) ?_
  refine lv_iload_n hx hb dX4_plus_1 rfl (lv_at hl 1 rfl) ?_
  refine fr_cq (fr_runV (n := 1) (rest := []) C (c_X4_fieldAt l D adr cs hN t a0 _ h) hP hS (by omega) (fG_FC adr cs t) rfl (fgV mw_4_9 mw_4_10 mw_4_11 mw_1_2 mw_4_12) rfl rfl rfl (by decide +kernel) ⟨Nat.le_of_ble_eq_true rfl, Nat.le_of_ble_eq_true rfl⟩ rfl hl.1 rfl (Nat.le_of_ble_eq_true rfl) dX4_plus_2) hS (fun t1 H locs h hP hS => ?_) (fun i2 t1 H locs h hP hS => ?_)
  · replace h := h.1 rfl
    refine lv_astoreN (lv' := [(4, .null), (0, .ref (adr 0)), (1, .int a0), (2, .int a1), (3, .int a2)]) hx hb dX4_plus_5 hl (by decide) rfl (fun ls hl => ?_)
    refine lv_aloadN hx hb dX4_plus_7 (lv_at hl 0 rfl) ?_
    refine lv_ifnullN (tgt := 30) hx hb dX4_plus_9 (by decide) ?_
    refine lv_iconst (v := (-1)) hx hb dX4_plus_30 (by decide) ?_
    exact fr_iret C hP hS h dX4_plus_31
  · obtain ⟨hi2, h⟩ := h.2 i2 rfl
    refine lv_astore (lv' := [(4, .ref (adr i2)), (0, .ref (adr 0)), (1, .int a0), (2, .int a1), (3, .int a2)]) hx hb dX4_plus_5 hl (by decide) rfl (fun ls hl => ?_)
    refine lv_aload hx hb dX4_plus_7 (lv_at hl 0 rfl) ?_
    refine lv_ifnull hx hb dX4_plus_9 ?_
    refine lv_aload hx hb dX4_plus_12 (lv_at hl 0 rfl) ?_
    refine lv_iload_n hx hb dX4_plus_14 rfl (lv_at hl 3 rfl) ?_
    refine fr_ci (fr_runV (n := 1) (rest := []) C (c_X2_has l D adr cs hN t1 i2 hi2 a1 _ h) hP hS (by have := hi2.2.1; omega) (fG_FI adr cs t1 hi2) rfl (fgV mw_11_18 mw_11_19 mw_11_20 mw_2_2 mw_11_21) rfl rfl rfl (by decide +kernel) ⟨Nat.le_of_ble_eq_true rfl, Nat.le_of_ble_eq_true rfl⟩ rfl hl.1 rfl (Nat.le_of_ble_eq_true rfl) dX4_plus_15) hS (fun r4 t3 H locs h hP hS => ?_)
    refine lv_if_eq (tgt := 30) hx hb dX4_plus_18 (by decide) (fun c9 => ?_) (fun c9 => ?_)
    · replace h := h.1 c9
      refine lv_iconst (v := (-1)) hx hb dX4_plus_30 (by decide) ?_
      exact fr_iret C hP hS h dX4_plus_31
    · replace h := h.2 c9
      refine lv_aload hx hb dX4_plus_21 (lv_at hl 0 rfl) ?_
      refine lv_iload_n hx hb dX4_plus_23 rfl (lv_at hl 4 rfl) ?_
      refine fr_ci (fr_runV (n := 1) (rest := []) C (c_X2_has l D adr cs hN t3 i2 hi2 a2 _ h) hP hS (by have := hi2.2.1; omega) (fG_FI adr cs t3 hi2) rfl (fgV mw_11_18 mw_11_19 mw_11_20 mw_2_2 mw_11_21) rfl rfl rfl (by decide +kernel) ⟨Nat.le_of_ble_eq_true rfl, Nat.le_of_ble_eq_true rfl⟩ rfl hl.1 rfl (Nat.le_of_ble_eq_true rfl) dX4_plus_24) hS (fun r6 t5 H locs h hP hS => ?_)
      refine lv_if_ne (tgt := 32) hx hb dX4_plus_27 (by decide) (fun c9 => ?_) (fun c9 => ?_)
      · replace h := h.1 c9
        refine lv_aload_n hx hb dX4_plus_32 rfl (lv_at hl 1 rfl) ?_
        refine fr_get (j := 0) C hP (by omega) (fG_FC adr cs t5) rfl (fun w h => List.mem_cons_of_mem _ (inl_X4 w h)) (by decide) rfl (List.mem_cons_of_mem _ mw_1_15) rfl dX4_plus_33 ?_
        refine lv_iload_n hx hb dX4_plus_36 rfl (lv_at hl 3 rfl) ?_
        refine lv_iload_n hx hb dX4_plus_37 rfl (lv_at hl 4 rfl) ?_
        refine fr_ci (fr_runV (n := 2) (rest := []) C (c_X3_sum l D adr cs hN t5 a1 a2 _ h) hP hS (by omega) (fG_PO adr cs t5) rfl (fgV mw_11_22 mw_6_15 mw_6_16 mw_1_14 mw_6_17) rfl rfl rfl (by decide +kernel) ⟨Nat.le_of_ble_eq_true rfl, Nat.le_of_ble_eq_true rfl⟩ rfl hl.1 rfl (Nat.le_of_ble_eq_true rfl) dX4_plus_38) hS (fun r8 t7 H locs h hP hS => ?_)
        exact fr_iret C hP hS h dX4_plus_41
      · replace h := h.2 c9
        refine lv_iconst (v := (-1)) hx hb dX4_plus_30 (by decide) ?_
        exact fr_iret C hP hS h dX4_plus_31

/-! X4.times -/
abbrev wm_X4_times : List Cond := Cond.code yX4_times cX4_times 5 (some .int) :: wsL_law
def q_X4_times (t : fcS) (a0 : Int32) (a1 : Int32) (a2 : Int32) (post : Int32 → fcS → Prop) : Prop := q_X4_fieldAt t a0 (fun (r : Option Nat) (t1 : fcS) => (r = none → (post ((-1)) t1)) ∧ (∀ i2 : Nat, r = some i2 → (fisF i2 ∧ (q_X2_has t1 i2 a1 (fun (r4 : Int32) (t3 : fcS) => (r4 = 0 → (post ((-1)) t3)) ∧ (¬ r4 = 0 → (q_X2_has t3 i2 a2 (fun (r6 : Int32) (t5 : fcS) => (¬ r6 = 0 → (q_X2_product t5 i2 a1 a2 (fun (r8 : Int32) (t7 : fcS) => post r8 t7))) ∧ (r6 = 0 → (post ((-1)) t5))))))))))
set_option maxHeartbeats 4000000 in
set_option maxRecDepth 100000 in
theorem c_X4_times (l : Launch) (D : va_G) (adr : Nat → Nat) (cs : Nat → ClassId) {N : Nat} (hN : 53 ≤ N) (t : fcS) (a0 : Int32) (a1 : Int32) (a2 : Int32) (post : Int32 → fcS → Prop) (h : q_X4_times t a0 a1 a2 post) : Met l yX4_times wm_X4_times ({ frames := 5, cells := 0, slots := 0, locals := 123 } : Room) (fcPre D adr cs N t [.ref (adr 0), .int a0, .int a1, .int a2]) (fQi D adr cs N post) 0 0 (faN adr N) := by
  refine f_enter (cc := cX4_times) (nL := 5) (ret := some .int) (lv := [(0, .ref (adr 0)), (1, .int a0), (2, .int a1), (3, .int a2)]) (own := RX4) (by decide) rfl (Nat.le_of_ble_eq_true rfl) rfl rfl ?_
  intro p e s m below meth c ls C hP hS hl
  have hx := C.1.1
  have hb := C.1.2.1
  unfold q_X4_times at h
  refine lv_aload_n hx hb dX4_times_0 rfl (lv_at hl 0 rfl) ?_
  refine lv_iload_n hx hb dX4_times_1 rfl (lv_at hl 1 rfl) ?_
  refine fr_cq (fr_runV (n := 1) (rest := []) C (c_X4_fieldAt l D adr cs hN t a0 _ h) hP hS (by omega) (fG_FC adr cs t) rfl (fgV mw_4_9 mw_4_10 mw_4_11 mw_1_2 mw_4_12) rfl rfl rfl (by decide +kernel) ⟨Nat.le_of_ble_eq_true rfl, Nat.le_of_ble_eq_true rfl⟩ rfl hl.1 rfl (Nat.le_of_ble_eq_true rfl) dX4_times_2) hS (fun t1 H locs h hP hS => ?_) (fun i2 t1 H locs h hP hS => ?_)
  · replace h := h.1 rfl
    refine lv_astoreN (lv' := [(4, .null), (0, .ref (adr 0)), (1, .int a0), (2, .int a1), (3, .int a2)]) hx hb dX4_times_5 hl (by decide) rfl (fun ls hl => ?_)
    refine lv_aloadN hx hb dX4_times_7 (lv_at hl 0 rfl) ?_
    refine lv_ifnullN (tgt := 30) hx hb dX4_times_9 (by decide) ?_
    refine lv_iconst (v := (-1)) hx hb dX4_times_30 (by decide) ?_
    exact fr_iret C hP hS h dX4_times_31
  · obtain ⟨hi2, h⟩ := h.2 i2 rfl
    refine lv_astore (lv' := [(4, .ref (adr i2)), (0, .ref (adr 0)), (1, .int a0), (2, .int a1), (3, .int a2)]) hx hb dX4_times_5 hl (by decide) rfl (fun ls hl => ?_)
    refine lv_aload hx hb dX4_times_7 (lv_at hl 0 rfl) ?_
    refine lv_ifnull hx hb dX4_times_9 ?_
    refine lv_aload hx hb dX4_times_12 (lv_at hl 0 rfl) ?_
    refine lv_iload_n hx hb dX4_times_14 rfl (lv_at hl 3 rfl) ?_
    refine fr_ci (fr_runV (n := 1) (rest := []) C (c_X2_has l D adr cs hN t1 i2 hi2 a1 _ h) hP hS (by have := hi2.2.1; omega) (fG_FI adr cs t1 hi2) rfl (fgV mw_11_18 mw_11_19 mw_11_20 mw_2_2 mw_11_21) rfl rfl rfl (by decide +kernel) ⟨Nat.le_of_ble_eq_true rfl, Nat.le_of_ble_eq_true rfl⟩ rfl hl.1 rfl (Nat.le_of_ble_eq_true rfl) dX4_times_15) hS (fun r4 t3 H locs h hP hS => ?_)
    refine lv_if_eq (tgt := 30) hx hb dX4_times_18 (by decide) (fun c9 => ?_) (fun c9 => ?_)
    · replace h := h.1 c9
      refine lv_iconst (v := (-1)) hx hb dX4_times_30 (by decide) ?_
      exact fr_iret C hP hS h dX4_times_31
    · replace h := h.2 c9
      refine lv_aload hx hb dX4_times_21 (lv_at hl 0 rfl) ?_
      refine lv_iload_n hx hb dX4_times_23 rfl (lv_at hl 4 rfl) ?_
      refine fr_ci (fr_runV (n := 1) (rest := []) C (c_X2_has l D adr cs hN t3 i2 hi2 a2 _ h) hP hS (by have := hi2.2.1; omega) (fG_FI adr cs t3 hi2) rfl (fgV mw_11_18 mw_11_19 mw_11_20 mw_2_2 mw_11_21) rfl rfl rfl (by decide +kernel) ⟨Nat.le_of_ble_eq_true rfl, Nat.le_of_ble_eq_true rfl⟩ rfl hl.1 rfl (Nat.le_of_ble_eq_true rfl) dX4_times_24) hS (fun r6 t5 H locs h hP hS => ?_)
      refine lv_if_ne (tgt := 32) hx hb dX4_times_27 (by decide) (fun c9 => ?_) (fun c9 => ?_)
      · replace h := h.1 c9
        refine lv_aload hx hb dX4_times_32 (lv_at hl 0 rfl) ?_
        refine lv_iload_n hx hb dX4_times_34 rfl (lv_at hl 3 rfl) ?_
        refine lv_iload_n hx hb dX4_times_35 rfl (lv_at hl 4 rfl) ?_
        refine fr_ci (fr_runV (n := 2) (rest := []) C (c_X2_product l D adr cs hN t5 i2 hi2 a1 a2 _ h) hP hS (by have := hi2.2.1; omega) (fG_FI adr cs t5 hi2) rfl (fgV mw_12_15 mw_12_16 mw_12_17 mw_2_2 mw_12_18) rfl rfl rfl (by decide +kernel) ⟨Nat.le_of_ble_eq_true rfl, Nat.le_of_ble_eq_true rfl⟩ rfl hl.1 rfl (Nat.le_of_ble_eq_true rfl) dX4_times_36) hS (fun r8 t7 H locs h hP hS => ?_)
        exact fr_iret C hP hS h dX4_times_39
      · replace h := h.2 c9
        refine lv_iconst (v := (-1)) hx hb dX4_times_30 (by decide) ?_
        exact fr_iret C hP hS h dX4_times_31

/-! X4.over -/
abbrev wm_X4_over : List Cond := Cond.code yX4_over cX4_over 4 (some .int) :: wsL_law
def q_X4_over (t : fcS) (a0 : Int32) (a1 : Int32) (post : Int32 → fcS → Prop) : Prop := q_X4_fieldAt t a0 (fun (r : Option Nat) (t1 : fcS) => (r = none → (post ((-1)) t1)) ∧ (∀ i2 : Nat, r = some i2 → (fisF i2 ∧ (q_X2_has t1 i2 a1 (fun (r4 : Int32) (t3 : fcS) => (¬ r4 = 0 → ((¬ a1 = 0 → (q_X2_power t3 i2 a1 (((fgi t3 i2 6) - 1)) (fun (r6 : Int32) (t5 : fcS) => post r6 t5))) ∧ (a1 = 0 → (post ((-2)) t3)))) ∧ (r4 = 0 → (post ((-1)) t3)))))))
set_option maxHeartbeats 4000000 in
set_option maxRecDepth 100000 in
theorem c_X4_over (l : Launch) (D : va_G) (adr : Nat → Nat) (cs : Nat → ClassId) {N : Nat} (hN : 53 ≤ N) (t : fcS) (a0 : Int32) (a1 : Int32) (post : Int32 → fcS → Prop) (h : q_X4_over t a0 a1 post) : Met l yX4_over wm_X4_over ({ frames := 5, cells := 0, slots := 0, locals := 123 } : Room) (fcPre D adr cs N t [.ref (adr 0), .int a0, .int a1]) (fQi D adr cs N post) 0 0 (faN adr N) := by
  refine f_enter (cc := cX4_over) (nL := 4) (ret := some .int) (lv := [(0, .ref (adr 0)), (1, .int a0), (2, .int a1)]) (own := RX4) (by decide) rfl (Nat.le_of_ble_eq_true rfl) rfl rfl ?_
  intro p e s m below meth c ls C hP hS hl
  have hx := C.1.1
  have hb := C.1.2.1
  unfold q_X4_over at h
  refine lv_aload_n hx hb dX4_over_0 rfl (lv_at hl 0 rfl) ?_
  refine lv_iload_n hx hb dX4_over_1 rfl (lv_at hl 1 rfl) ?_
  refine fr_cq (fr_runV (n := 1) (rest := []) C (c_X4_fieldAt l D adr cs hN t a0 _ h) hP hS (by omega) (fG_FC adr cs t) rfl (fgV mw_4_9 mw_4_10 mw_4_11 mw_1_2 mw_4_12) rfl rfl rfl (by decide +kernel) ⟨Nat.le_of_ble_eq_true rfl, Nat.le_of_ble_eq_true rfl⟩ rfl hl.1 rfl (Nat.le_of_ble_eq_true rfl) dX4_over_2) hS (fun t1 H locs h hP hS => ?_) (fun i2 t1 H locs h hP hS => ?_)
  · replace h := h.1 rfl
    refine lv_astore_nN (lv' := [(3, .null), (0, .ref (adr 0)), (1, .int a0), (2, .int a1)]) hx hb dX4_over_5 rfl hl (by decide) rfl (fun ls hl => ?_)
    refine lv_aload_nN hx hb dX4_over_6 rfl (lv_at hl 0 rfl) ?_
    refine lv_ifnullN (tgt := 18) hx hb dX4_over_7 (by decide) ?_
    refine lv_iconst (v := (-1)) hx hb dX4_over_18 (by decide) ?_
    exact fr_iret C hP hS h dX4_over_19
  · obtain ⟨hi2, h⟩ := h.2 i2 rfl
    refine lv_astore_n (lv' := [(3, .ref (adr i2)), (0, .ref (adr 0)), (1, .int a0), (2, .int a1)]) hx hb dX4_over_5 rfl hl (by decide) rfl (fun ls hl => ?_)
    refine lv_aload_n hx hb dX4_over_6 rfl (lv_at hl 0 rfl) ?_
    refine lv_ifnull hx hb dX4_over_7 ?_
    refine lv_aload_n hx hb dX4_over_10 rfl (lv_at hl 0 rfl) ?_
    refine lv_iload_n hx hb dX4_over_11 rfl (lv_at hl 3 rfl) ?_
    refine fr_ci (fr_runV (n := 1) (rest := []) C (c_X2_has l D adr cs hN t1 i2 hi2 a1 _ h) hP hS (by have := hi2.2.1; omega) (fG_FI adr cs t1 hi2) rfl (fgV mw_11_18 mw_11_19 mw_11_20 mw_2_2 mw_11_21) rfl rfl rfl (by decide +kernel) ⟨Nat.le_of_ble_eq_true rfl, Nat.le_of_ble_eq_true rfl⟩ rfl hl.1 rfl (Nat.le_of_ble_eq_true rfl) dX4_over_12) hS (fun r4 t3 H locs h hP hS => ?_)
    refine lv_if_ne (tgt := 20) hx hb dX4_over_15 (by decide) (fun c9 => ?_) (fun c9 => ?_)
    · replace h := h.1 c9
      refine lv_iload_n hx hb dX4_over_20 rfl (lv_at hl 3 rfl) ?_
      refine lv_if_ne (tgt := 29) hx hb dX4_over_21 (by decide) (fun c9 => ?_) (fun c9 => ?_)
      · replace h := h.1 c9
        refine lv_aload_n hx hb dX4_over_29 rfl (lv_at hl 0 rfl) ?_
        refine lv_iload_n hx hb dX4_over_30 rfl (lv_at hl 3 rfl) ?_
        refine lv_aload_n hx hb dX4_over_31 rfl (lv_at hl 0 rfl) ?_
        refine fr_getN (j := 6) C hP (by have := hi2.2.1; omega) (fG_FI adr cs t3 hi2) rfl (fun w h => List.mem_cons_of_mem _ (inl_X2 w h)) (by decide) rfl (by decide +kernel) rfl dX4_over_32 ?_
        refine lv_iconst (v := 1) hx hb dX4_over_35 (by decide) ?_
        refine lv_isub hx hb dX4_over_36 ?_
        refine fr_ci (fr_runV (n := 2) (rest := []) C (c_X2_power l D adr cs hN t3 i2 hi2 a1 (((fgi t3 i2 6) - 1)) _ h) hP hS (by have := hi2.2.1; omega) (fG_FI adr cs t3 hi2) rfl (fgV mw_13_3 mw_13_4 mw_13_5 mw_2_2 mw_13_6) rfl rfl rfl (by decide +kernel) ⟨Nat.le_of_ble_eq_true rfl, Nat.le_of_ble_eq_true rfl⟩ rfl hl.1 rfl (Nat.le_of_ble_eq_true rfl) dX4_over_37) hS (fun r6 t5 H locs h hP hS => ?_)
        exact fr_iret C hP hS h dX4_over_40
      · replace h := h.2 c9
        refine lv_bipush (v := (-2)) hx hb dX4_over_24 (by decide) ?_
        refine lv_goto (tgt := 40) hx hb dX4_over_26 (by decide) ?_
        exact fr_iret C hP hS h dX4_over_40
    · replace h := h.2 c9
      refine lv_iconst (v := (-1)) hx hb dX4_over_18 (by decide) ?_
      exact fr_iret C hP hS h dX4_over_19

/-! X4.raise -/
abbrev wm_X4_raise : List Cond := Cond.code yX4_raise cX4_raise 5 (some .int) :: wsL_law
def q_X4_raise (t : fcS) (a0 : Int32) (a1 : Int32) (a2 : Int32) (post : Int32 → fcS → Prop) : Prop := q_X4_fieldAt t a0 (fun (r : Option Nat) (t1 : fcS) => (r = none → (post ((-1)) t1)) ∧ (∀ i2 : Nat, r = some i2 → (fisF i2 ∧ (q_X2_has t1 i2 a1 (fun (r4 : Int32) (t3 : fcS) => (r4 = 0 → (post ((-1)) t3)) ∧ (¬ r4 = 0 → ((0 ≤ a2 → (q_X2_power t3 i2 a1 a2 (fun (r6 : Int32) (t5 : fcS) => post r6 t5))) ∧ (¬ 0 ≤ a2 → (post ((-1)) t3)))))))))
set_option maxHeartbeats 4000000 in
set_option maxRecDepth 100000 in
theorem c_X4_raise (l : Launch) (D : va_G) (adr : Nat → Nat) (cs : Nat → ClassId) {N : Nat} (hN : 53 ≤ N) (t : fcS) (a0 : Int32) (a1 : Int32) (a2 : Int32) (post : Int32 → fcS → Prop) (h : q_X4_raise t a0 a1 a2 post) : Met l yX4_raise wm_X4_raise ({ frames := 5, cells := 0, slots := 0, locals := 123 } : Room) (fcPre D adr cs N t [.ref (adr 0), .int a0, .int a1, .int a2]) (fQi D adr cs N post) 0 0 (faN adr N) := by
  refine f_enter (cc := cX4_raise) (nL := 5) (ret := some .int) (lv := [(0, .ref (adr 0)), (1, .int a0), (2, .int a1), (3, .int a2)]) (own := RX4) (by decide) rfl (Nat.le_of_ble_eq_true rfl) rfl rfl ?_
  intro p e s m below meth c ls C hP hS hl
  have hx := C.1.1
  have hb := C.1.2.1
  unfold q_X4_raise at h
  refine lv_aload_n hx hb dX4_raise_0 rfl (lv_at hl 0 rfl) ?_
  refine lv_iload_n hx hb dX4_raise_1 rfl (lv_at hl 1 rfl) ?_
  refine fr_cq (fr_runV (n := 1) (rest := []) C (c_X4_fieldAt l D adr cs hN t a0 _ h) hP hS (by omega) (fG_FC adr cs t) rfl (fgV mw_4_9 mw_4_10 mw_4_11 mw_1_2 mw_4_12) rfl rfl rfl (by decide +kernel) ⟨Nat.le_of_ble_eq_true rfl, Nat.le_of_ble_eq_true rfl⟩ rfl hl.1 rfl (Nat.le_of_ble_eq_true rfl) dX4_raise_2) hS (fun t1 H locs h hP hS => ?_) (fun i2 t1 H locs h hP hS => ?_)
  · replace h := h.1 rfl
    refine lv_astoreN (lv' := [(4, .null), (0, .ref (adr 0)), (1, .int a0), (2, .int a1), (3, .int a2)]) hx hb dX4_raise_5 hl (by decide) rfl (fun ls hl => ?_)
    refine lv_aloadN hx hb dX4_raise_7 (lv_at hl 0 rfl) ?_
    refine lv_ifnullN (tgt := 25) hx hb dX4_raise_9 (by decide) ?_
    refine lv_iconst (v := (-1)) hx hb dX4_raise_25 (by decide) ?_
    exact fr_iret C hP hS h dX4_raise_26
  · obtain ⟨hi2, h⟩ := h.2 i2 rfl
    refine lv_astore (lv' := [(4, .ref (adr i2)), (0, .ref (adr 0)), (1, .int a0), (2, .int a1), (3, .int a2)]) hx hb dX4_raise_5 hl (by decide) rfl (fun ls hl => ?_)
    refine lv_aload hx hb dX4_raise_7 (lv_at hl 0 rfl) ?_
    refine lv_ifnull hx hb dX4_raise_9 ?_
    refine lv_aload hx hb dX4_raise_12 (lv_at hl 0 rfl) ?_
    refine lv_iload_n hx hb dX4_raise_14 rfl (lv_at hl 3 rfl) ?_
    refine fr_ci (fr_runV (n := 1) (rest := []) C (c_X2_has l D adr cs hN t1 i2 hi2 a1 _ h) hP hS (by have := hi2.2.1; omega) (fG_FI adr cs t1 hi2) rfl (fgV mw_11_18 mw_11_19 mw_11_20 mw_2_2 mw_11_21) rfl rfl rfl (by decide +kernel) ⟨Nat.le_of_ble_eq_true rfl, Nat.le_of_ble_eq_true rfl⟩ rfl hl.1 rfl (Nat.le_of_ble_eq_true rfl) dX4_raise_15) hS (fun r4 t3 H locs h hP hS => ?_)
    refine lv_if_eq (tgt := 25) hx hb dX4_raise_18 (by decide) (fun c9 => ?_) (fun c9 => ?_)
    · replace h := h.1 c9
      refine lv_iconst (v := (-1)) hx hb dX4_raise_25 (by decide) ?_
      exact fr_iret C hP hS h dX4_raise_26
    · replace h := h.2 c9
      refine lv_iload_n hx hb dX4_raise_21 rfl (lv_at hl 4 rfl) ?_
      refine lv_if_ge (tgt := 27) hx hb dX4_raise_22 (by decide) (fun c9 => ?_) (fun c9 => ?_)
      · replace h := h.1 c9
        refine lv_aload hx hb dX4_raise_27 (lv_at hl 0 rfl) ?_
        refine lv_iload_n hx hb dX4_raise_29 rfl (lv_at hl 3 rfl) ?_
        refine lv_iload_n hx hb dX4_raise_30 rfl (lv_at hl 4 rfl) ?_
        refine fr_ci (fr_runV (n := 2) (rest := []) C (c_X2_power l D adr cs hN t3 i2 hi2 a1 a2 _ h) hP hS (by have := hi2.2.1; omega) (fG_FI adr cs t3 hi2) rfl (fgV mw_13_3 mw_13_4 mw_13_5 mw_2_2 mw_13_6) rfl rfl rfl (by decide +kernel) ⟨Nat.le_of_ble_eq_true rfl, Nat.le_of_ble_eq_true rfl⟩ rfl hl.1 rfl (Nat.le_of_ble_eq_true rfl) dX4_raise_31) hS (fun r6 t5 H locs h hP hS => ?_)
        exact fr_iret C hP hS h dX4_raise_34
      · replace h := h.2 c9
        refine lv_iconst (v := (-1)) hx hb dX4_raise_25 (by decide) ?_
        exact fr_iret C hP hS h dX4_raise_26

/-! X4.sign -/
abbrev wm_X4_sign : List Cond := Cond.code yX4_sign cX4_sign 4 (some .int) :: wsL_law
def q_X4_sign (t : fcS) (a0 : Int32) (a1 : Int32) (post : Int32 → fcS → Prop) : Prop := q_X4_fieldAt t a0 (fun (r : Option Nat) (t1 : fcS) => (r = none → (post ((-1000000000)) t1)) ∧ (∀ i2 : Nat, r = some i2 → (fisF i2 ∧ (q_X2_has t1 i2 a1 (fun (r4 : Int32) (t3 : fcS) => (¬ r4 = 0 → (q_X2_squareSign t3 i2 a1 (fun (r6 : Int32) (t5 : fcS) => post r6 t5))) ∧ (r4 = 0 → (post ((-1000000000)) t3)))))))
set_option maxHeartbeats 4000000 in
set_option maxRecDepth 100000 in
theorem c_X4_sign (l : Launch) (D : va_G) (adr : Nat → Nat) (cs : Nat → ClassId) {N : Nat} (hN : 53 ≤ N) (t : fcS) (a0 : Int32) (a1 : Int32) (post : Int32 → fcS → Prop) (h : q_X4_sign t a0 a1 post) : Met l yX4_sign wm_X4_sign ({ frames := 5, cells := 0, slots := 0, locals := 123 } : Room) (fcPre D adr cs N t [.ref (adr 0), .int a0, .int a1]) (fQi D adr cs N post) 0 0 (faN adr N) := by
  refine f_enter (cc := cX4_sign) (nL := 4) (ret := some .int) (lv := [(0, .ref (adr 0)), (1, .int a0), (2, .int a1)]) (own := RX4) (by decide) rfl (Nat.le_of_ble_eq_true rfl) rfl rfl ?_
  intro p e s m below meth c ls C hP hS hl
  have hx := C.1.1
  have hb := C.1.2.1
  unfold q_X4_sign at h
  refine lv_aload_n hx hb dX4_sign_0 rfl (lv_at hl 0 rfl) ?_
  refine lv_iload_n hx hb dX4_sign_1 rfl (lv_at hl 1 rfl) ?_
  refine fr_cq (fr_runV (n := 1) (rest := []) C (c_X4_fieldAt l D adr cs hN t a0 _ h) hP hS (by omega) (fG_FC adr cs t) rfl (fgV mw_4_9 mw_4_10 mw_4_11 mw_1_2 mw_4_12) rfl rfl rfl (by decide +kernel) ⟨Nat.le_of_ble_eq_true rfl, Nat.le_of_ble_eq_true rfl⟩ rfl hl.1 rfl (Nat.le_of_ble_eq_true rfl) dX4_sign_2) hS (fun t1 H locs h hP hS => ?_) (fun i2 t1 H locs h hP hS => ?_)
  · replace h := h.1 rfl
    refine lv_astore_nN (lv' := [(3, .null), (0, .ref (adr 0)), (1, .int a0), (2, .int a1)]) hx hb dX4_sign_5 rfl hl (by decide) rfl (fun ls hl => ?_)
    refine lv_aload_nN hx hb dX4_sign_6 rfl (lv_at hl 0 rfl) ?_
    refine lv_ifnullN (tgt := 18) hx hb dX4_sign_7 (by decide) ?_
    refine lv_ldc hx hb (v := (-1000000000)) C.1.2.2.2.1 (C.1.2.2.2.2 _ (List.mem_cons_of_mem _ mw_14_3)) dX4_sign_18 ?_
    exact fr_iret C hP hS h dX4_sign_20
  · obtain ⟨hi2, h⟩ := h.2 i2 rfl
    refine lv_astore_n (lv' := [(3, .ref (adr i2)), (0, .ref (adr 0)), (1, .int a0), (2, .int a1)]) hx hb dX4_sign_5 rfl hl (by decide) rfl (fun ls hl => ?_)
    refine lv_aload_n hx hb dX4_sign_6 rfl (lv_at hl 0 rfl) ?_
    refine lv_ifnull hx hb dX4_sign_7 ?_
    refine lv_aload_n hx hb dX4_sign_10 rfl (lv_at hl 0 rfl) ?_
    refine lv_iload_n hx hb dX4_sign_11 rfl (lv_at hl 3 rfl) ?_
    refine fr_ci (fr_runV (n := 1) (rest := []) C (c_X2_has l D adr cs hN t1 i2 hi2 a1 _ h) hP hS (by have := hi2.2.1; omega) (fG_FI adr cs t1 hi2) rfl (fgV mw_11_18 mw_11_19 mw_11_20 mw_2_2 mw_11_21) rfl rfl rfl (by decide +kernel) ⟨Nat.le_of_ble_eq_true rfl, Nat.le_of_ble_eq_true rfl⟩ rfl hl.1 rfl (Nat.le_of_ble_eq_true rfl) dX4_sign_12) hS (fun r4 t3 H locs h hP hS => ?_)
    refine lv_if_ne (tgt := 21) hx hb dX4_sign_15 (by decide) (fun c9 => ?_) (fun c9 => ?_)
    · replace h := h.1 c9
      refine lv_aload_n hx hb dX4_sign_21 rfl (lv_at hl 0 rfl) ?_
      refine lv_iload_n hx hb dX4_sign_22 rfl (lv_at hl 3 rfl) ?_
      refine fr_ci (fr_runV (n := 1) (rest := []) C (c_X2_squareSign l D adr cs hN t3 i2 hi2 a1 _ h) hP hS (by have := hi2.2.1; omega) (fG_FI adr cs t3 hi2) rfl (fgV mw_6_21 mw_6_22 mw_6_23 mw_2_2 mw_7_0) rfl rfl rfl (by decide +kernel) ⟨Nat.le_of_ble_eq_true rfl, Nat.le_of_ble_eq_true rfl⟩ rfl hl.1 rfl (Nat.le_of_ble_eq_true rfl) dX4_sign_23) hS (fun r6 t5 H locs h hP hS => ?_)
      exact fr_iret C hP hS h dX4_sign_26
    · replace h := h.2 c9
      refine lv_ldc hx hb (v := (-1000000000)) C.1.2.2.2.1 (C.1.2.2.2.2 _ (List.mem_cons_of_mem _ mw_14_3)) dX4_sign_18 ?_
      exact fr_iret C hP hS h dX4_sign_20

/-! X4.turns -/
abbrev wm_X4_turns : List Cond := Cond.code yX4_turns cX4_turns 4 (some .int) :: wsL_law
def q_X4_turns (t : fcS) (a0 : Int32) (a1 : Int32) (post : Int32 → fcS → Prop) : Prop := q_X4_fieldAt t a0 (fun (r : Option Nat) (t1 : fcS) => (r = none → (post ((-1)) t1)) ∧ (∀ i2 : Nat, r = some i2 → (fisF i2 ∧ (q_X2_has t1 i2 a1 (fun (r4 : Int32) (t3 : fcS) => (¬ r4 = 0 → ((¬ a1 = 0 → (q_X2_turnsOf t3 i2 a1 (fun (r6 : Int32) (t5 : fcS) => post r6 t5))) ∧ (a1 = 0 → (post ((-2)) t3)))) ∧ (r4 = 0 → (post ((-1)) t3)))))))
set_option maxHeartbeats 4000000 in
set_option maxRecDepth 100000 in
theorem c_X4_turns (l : Launch) (D : va_G) (adr : Nat → Nat) (cs : Nat → ClassId) {N : Nat} (hN : 53 ≤ N) (t : fcS) (a0 : Int32) (a1 : Int32) (post : Int32 → fcS → Prop) (h : q_X4_turns t a0 a1 post) : Met l yX4_turns wm_X4_turns ({ frames := 5, cells := 0, slots := 0, locals := 123 } : Room) (fcPre D adr cs N t [.ref (adr 0), .int a0, .int a1]) (fQi D adr cs N post) 0 0 (faN adr N) := by
  refine f_enter (cc := cX4_turns) (nL := 4) (ret := some .int) (lv := [(0, .ref (adr 0)), (1, .int a0), (2, .int a1)]) (own := RX4) (by decide) rfl (Nat.le_of_ble_eq_true rfl) rfl rfl ?_
  intro p e s m below meth c ls C hP hS hl
  have hx := C.1.1
  have hb := C.1.2.1
  unfold q_X4_turns at h
  refine lv_aload_n hx hb dX4_turns_0 rfl (lv_at hl 0 rfl) ?_
  refine lv_iload_n hx hb dX4_turns_1 rfl (lv_at hl 1 rfl) ?_
  refine fr_cq (fr_runV (n := 1) (rest := []) C (c_X4_fieldAt l D adr cs hN t a0 _ h) hP hS (by omega) (fG_FC adr cs t) rfl (fgV mw_4_9 mw_4_10 mw_4_11 mw_1_2 mw_4_12) rfl rfl rfl (by decide +kernel) ⟨Nat.le_of_ble_eq_true rfl, Nat.le_of_ble_eq_true rfl⟩ rfl hl.1 rfl (Nat.le_of_ble_eq_true rfl) dX4_turns_2) hS (fun t1 H locs h hP hS => ?_) (fun i2 t1 H locs h hP hS => ?_)
  · replace h := h.1 rfl
    refine lv_astore_nN (lv' := [(3, .null), (0, .ref (adr 0)), (1, .int a0), (2, .int a1)]) hx hb dX4_turns_5 rfl hl (by decide) rfl (fun ls hl => ?_)
    refine lv_aload_nN hx hb dX4_turns_6 rfl (lv_at hl 0 rfl) ?_
    refine lv_ifnullN (tgt := 18) hx hb dX4_turns_7 (by decide) ?_
    refine lv_iconst (v := (-1)) hx hb dX4_turns_18 (by decide) ?_
    exact fr_iret C hP hS h dX4_turns_19
  · obtain ⟨hi2, h⟩ := h.2 i2 rfl
    refine lv_astore_n (lv' := [(3, .ref (adr i2)), (0, .ref (adr 0)), (1, .int a0), (2, .int a1)]) hx hb dX4_turns_5 rfl hl (by decide) rfl (fun ls hl => ?_)
    refine lv_aload_n hx hb dX4_turns_6 rfl (lv_at hl 0 rfl) ?_
    refine lv_ifnull hx hb dX4_turns_7 ?_
    refine lv_aload_n hx hb dX4_turns_10 rfl (lv_at hl 0 rfl) ?_
    refine lv_iload_n hx hb dX4_turns_11 rfl (lv_at hl 3 rfl) ?_
    refine fr_ci (fr_runV (n := 1) (rest := []) C (c_X2_has l D adr cs hN t1 i2 hi2 a1 _ h) hP hS (by have := hi2.2.1; omega) (fG_FI adr cs t1 hi2) rfl (fgV mw_11_18 mw_11_19 mw_11_20 mw_2_2 mw_11_21) rfl rfl rfl (by decide +kernel) ⟨Nat.le_of_ble_eq_true rfl, Nat.le_of_ble_eq_true rfl⟩ rfl hl.1 rfl (Nat.le_of_ble_eq_true rfl) dX4_turns_12) hS (fun r4 t3 H locs h hP hS => ?_)
    refine lv_if_ne (tgt := 20) hx hb dX4_turns_15 (by decide) (fun c9 => ?_) (fun c9 => ?_)
    · replace h := h.1 c9
      refine lv_iload_n hx hb dX4_turns_20 rfl (lv_at hl 3 rfl) ?_
      refine lv_if_ne (tgt := 29) hx hb dX4_turns_21 (by decide) (fun c9 => ?_) (fun c9 => ?_)
      · replace h := h.1 c9
        refine lv_aload_n hx hb dX4_turns_29 rfl (lv_at hl 0 rfl) ?_
        refine lv_iload_n hx hb dX4_turns_30 rfl (lv_at hl 3 rfl) ?_
        refine fr_ci (fr_runV (n := 1) (rest := []) C (c_X2_turnsOf l D adr cs hN t3 i2 hi2 a1 _ h) hP hS (by have := hi2.2.1; omega) (fG_FI adr cs t3 hi2) rfl (fgV mw_14_13 mw_14_14 mw_14_15 mw_2_2 mw_14_16) rfl rfl rfl (by decide +kernel) ⟨Nat.le_of_ble_eq_true rfl, Nat.le_of_ble_eq_true rfl⟩ rfl hl.1 rfl (Nat.le_of_ble_eq_true rfl) dX4_turns_31) hS (fun r6 t5 H locs h hP hS => ?_)
        exact fr_iret C hP hS h dX4_turns_34
      · replace h := h.2 c9
        refine lv_bipush (v := (-2)) hx hb dX4_turns_24 (by decide) ?_
        refine lv_goto (tgt := 34) hx hb dX4_turns_26 (by decide) ?_
        exact fr_iret C hP hS h dX4_turns_34
    · replace h := h.2 c9
      refine lv_iconst (v := (-1)) hx hb dX4_turns_18 (by decide) ?_
      exact fr_iret C hP hS h dX4_turns_19

/-! X4.trace -/
abbrev wm_X4_trace : List Cond := Cond.code yX4_trace cX4_trace 7 (some .int) :: wsL_law
def q_X4_trace_29 (i2 : Nat) (post : Int32 → fcS → Prop) : Nat → Int32 → Int32 → Int32 → Int32 → fcS → Prop
  | 0, _, _, _, _, _ => False
  | n + 1, v1, v4, v5, v6, t => (v1 ≤ v6 → (post v4 t)) ∧ (¬ v1 ≤ v6 → (q_X3_sum t v4 v5 (fun (r6 : Int32) (t5 : fcS) => q_X2_power t5 i2 v5 ((fgi t5 1 0)) (fun (r8 : Int32) (t7 : fcS) => ∀ x9 : Int32, x9 = v6 + 1 → (q_X4_trace_29 i2 post n v1 r6 r8 x9 t7)))))
def q_X4_trace (t : fcS) (a0 : Int32) (a1 : Int32) (post : Int32 → fcS → Prop) : Prop := q_X4_fieldAt t a0 (fun (r : Option Nat) (t1 : fcS) => (r = none → (post ((-1)) t1)) ∧ (∀ i2 : Nat, r = some i2 → (fisF i2 ∧ (q_X2_has t1 i2 a1 (fun (r4 : Int32) (t3 : fcS) => (¬ r4 = 0 → (∃ n0, q_X4_trace_29 i2 post n0 a0 0 a1 0 t3)) ∧ (r4 = 0 → (post ((-1)) t3)))))))
set_option maxHeartbeats 4000000 in
set_option maxRecDepth 100000 in
theorem k_X4_trace_29 {D : va_G} {adr : Nat → Nat} {cs : Nat → ClassId} {N : Nat} (hN : 53 ≤ N) {p : Program} {l : Launch} {e : Env} {s : State} {m : MethodId} {args : Array Value} {below : List Frame} {meth : Method} {c : Code} (C : fCx D adr cs N p s m args meth c cX4_trace 7 (some .int) RX4 wm_X4_trace) (i2 : Nat) (hi2 : fisF i2) {post : Int32 → fcS → Prop} : ∀ (n : Nat) (v1 : Int32) (v4 : Int32) (v5 : Int32) (v6 : Int32) (t : fcS) (H : Heap) (locs : List Loc) (ls : Array Slot), q_X4_trace_29 i2 post n v1 v4 v5 v6 t → va_P D vwCl (fwl adr N (fG adr cs t)) H → va_S (faN adr N) s.heap H locs → lv_has ls 7 [(0, .ref (adr 0)), (1, .int v1), (3, .ref (adr i2)), (4, .int v4), (5, .int v5), (6, .int v6)] → W p l e ({ frames := 5, cells := 0, slots := 0, locals := 123 } : Room) s m args below meth c H locs 0 0 (MQ below (fQi D adr cs N post) args s 0 0 (faN adr N)) (F0 m 29 ls []) := by
  have hx := C.1.1
  have hb := C.1.2.1
  intro n
  induction n with
  | zero => intro v1 v4 v5 v6 t H locs ls h; exact False.elim h
  | succ n ih =>
    intro v1 v4 v5 v6 t H locs ls h hP hS hl
    unfold q_X4_trace_29 at h
    refine lv_iload hx hb dX4_trace_29 (lv_at hl 5 rfl) ?_
    refine lv_iload_n hx hb dX4_trace_31 rfl (lv_at hl 1 rfl) ?_
    refine lv_icmp_ge (tgt := 69) hx hb dX4_trace_32 (by decide) (fun c9 => ?_) (fun c9 => ?_)
    · replace h := h.1 c9
      refine lv_iload hx hb dX4_trace_69 (lv_at hl 3 rfl) ?_
      exact fr_iret C hP hS h dX4_trace_71
    · replace h := h.2 c9
      refine lv_aload_n hx hb dX4_trace_35 rfl (lv_at hl 0 rfl) ?_
      refine fr_get (j := 0) C hP (by omega) (fG_FC adr cs t) rfl (fun w h => List.mem_cons_of_mem _ (inl_X4 w h)) (by decide) rfl (List.mem_cons_of_mem _ mw_1_15) rfl dX4_trace_36 ?_
      refine lv_iload hx hb dX4_trace_39 (lv_at hl 3 rfl) ?_
      refine lv_iload hx hb dX4_trace_41 (lv_at hl 4 rfl) ?_
      refine fr_ci (fr_runV (n := 2) (rest := []) C (c_X3_sum l D adr cs hN t v4 v5 _ h) hP hS (by omega) (fG_PO adr cs t) rfl (fgV mw_11_22 mw_6_15 mw_6_16 mw_1_14 mw_6_17) rfl rfl rfl (by decide +kernel) ⟨Nat.le_of_ble_eq_true rfl, Nat.le_of_ble_eq_true rfl⟩ rfl hl.1 rfl (Nat.le_of_ble_eq_true rfl) dX4_trace_43) hS (fun r6 t5 H locs h hP hS => ?_)
      refine lv_istore (lv' := [(4, .int r6), (0, .ref (adr 0)), (1, .int v1), (3, .ref (adr i2)), (5, .int v5), (6, .int v6)]) hx hb dX4_trace_46 hl (by decide) rfl (fun ls hl => ?_)
      refine lv_aload_n hx hb dX4_trace_48 rfl (lv_at hl 3 rfl) ?_
      refine lv_iload hx hb dX4_trace_49 (lv_at hl 4 rfl) ?_
      refine lv_aload_n hx hb dX4_trace_51 rfl (lv_at hl 1 rfl) ?_
      refine fr_get (j := 0) C hP (by omega) (fG_FC adr cs t5) rfl (fun w h => List.mem_cons_of_mem _ (inl_X4 w h)) (by decide) rfl (List.mem_cons_of_mem _ mw_1_15) rfl dX4_trace_52 ?_
      refine fr_getN (j := 0) C hP (by omega) (fG_PO adr cs t5) rfl (fun w h => List.mem_cons_of_mem _ (inl_X3 w h)) (by decide) rfl (by decide +kernel) rfl dX4_trace_55 ?_
      refine fr_ci (fr_runV (n := 2) (rest := []) C (c_X2_power l D adr cs hN t5 i2 hi2 v5 ((fgi t5 1 0)) _ h) hP hS (by have := hi2.2.1; omega) (fG_FI adr cs t5 hi2) rfl (fgV mw_13_3 mw_13_4 mw_13_5 mw_2_2 mw_13_6) rfl rfl rfl (by decide +kernel) ⟨Nat.le_of_ble_eq_true rfl, Nat.le_of_ble_eq_true rfl⟩ rfl hl.1 rfl (Nat.le_of_ble_eq_true rfl) dX4_trace_58) hS (fun r8 t7 H locs h hP hS => ?_)
      refine lv_istore (lv' := [(5, .int r8), (4, .int r6), (0, .ref (adr 0)), (1, .int v1), (3, .ref (adr i2)), (6, .int v6)]) hx hb dX4_trace_61 hl (by decide) rfl (fun ls hl => ?_)
      obtain ⟨x9, ex9⟩ : ∃ y : Int32, y = v6 + 1 := ⟨_, rfl⟩
      replace h := h x9 ex9
      refine lv_iinc (v := x9) (lv' := [(6, .int x9), (5, .int r8), (4, .int r6), (0, .ref (adr 0)), (1, .int v1), (3, .ref (adr i2))]) hx hb dX4_trace_63 hl (k := 5) rfl (by rw [ex9]; rfl) (by decide) rfl (fun ls hl => ?_)
      refine lv_goto (tgt := 29) hx hb dX4_trace_66 (by decide) ?_
      exact ih v1 r6 r8 x9 t7 _ _ _ h hP hS (lv_sub hl [3, 4, 5, 2, 1, 0] rfl)

set_option maxHeartbeats 4000000 in
set_option maxRecDepth 100000 in
theorem c_X4_trace (l : Launch) (D : va_G) (adr : Nat → Nat) (cs : Nat → ClassId) {N : Nat} (hN : 53 ≤ N) (t : fcS) (a0 : Int32) (a1 : Int32) (post : Int32 → fcS → Prop) (h : q_X4_trace t a0 a1 post) : Met l yX4_trace wm_X4_trace ({ frames := 5, cells := 0, slots := 0, locals := 123 } : Room) (fcPre D adr cs N t [.ref (adr 0), .int a0, .int a1]) (fQi D adr cs N post) 0 0 (faN adr N) := by
  refine f_enter (cc := cX4_trace) (nL := 7) (ret := some .int) (lv := [(0, .ref (adr 0)), (1, .int a0), (2, .int a1)]) (own := RX4) (by decide) rfl (Nat.le_of_ble_eq_true rfl) rfl rfl ?_
  intro p e s m below meth c ls C hP hS hl
  have hx := C.1.1
  have hb := C.1.2.1
  unfold q_X4_trace at h
  refine lv_aload_n hx hb dX4_trace_0 rfl (lv_at hl 0 rfl) ?_
  refine lv_iload_n hx hb dX4_trace_1 rfl (lv_at hl 1 rfl) ?_
  refine fr_cq (fr_runV (n := 1) (rest := []) C (c_X4_fieldAt l D adr cs hN t a0 _ h) hP hS (by omega) (fG_FC adr cs t) rfl (fgV mw_4_9 mw_4_10 mw_4_11 mw_1_2 mw_4_12) rfl rfl rfl (by decide +kernel) ⟨Nat.le_of_ble_eq_true rfl, Nat.le_of_ble_eq_true rfl⟩ rfl hl.1 rfl (Nat.le_of_ble_eq_true rfl) dX4_trace_2) hS (fun t1 H locs h hP hS => ?_) (fun i2 t1 H locs h hP hS => ?_)
  · replace h := h.1 rfl
    refine lv_astore_nN (lv' := [(3, .null), (0, .ref (adr 0)), (1, .int a0), (2, .int a1)]) hx hb dX4_trace_5 rfl hl (by decide) rfl (fun ls hl => ?_)
    refine lv_aload_nN hx hb dX4_trace_6 rfl (lv_at hl 0 rfl) ?_
    refine lv_ifnullN (tgt := 18) hx hb dX4_trace_7 (by decide) ?_
    refine lv_iconst (v := (-1)) hx hb dX4_trace_18 (by decide) ?_
    exact fr_iret C hP hS h dX4_trace_19
  · obtain ⟨hi2, h⟩ := h.2 i2 rfl
    refine lv_astore_n (lv' := [(3, .ref (adr i2)), (0, .ref (adr 0)), (1, .int a0), (2, .int a1)]) hx hb dX4_trace_5 rfl hl (by decide) rfl (fun ls hl => ?_)
    refine lv_aload_n hx hb dX4_trace_6 rfl (lv_at hl 0 rfl) ?_
    refine lv_ifnull hx hb dX4_trace_7 ?_
    refine lv_aload_n hx hb dX4_trace_10 rfl (lv_at hl 0 rfl) ?_
    refine lv_iload_n hx hb dX4_trace_11 rfl (lv_at hl 3 rfl) ?_
    refine fr_ci (fr_runV (n := 1) (rest := []) C (c_X2_has l D adr cs hN t1 i2 hi2 a1 _ h) hP hS (by have := hi2.2.1; omega) (fG_FI adr cs t1 hi2) rfl (fgV mw_11_18 mw_11_19 mw_11_20 mw_2_2 mw_11_21) rfl rfl rfl (by decide +kernel) ⟨Nat.le_of_ble_eq_true rfl, Nat.le_of_ble_eq_true rfl⟩ rfl hl.1 rfl (Nat.le_of_ble_eq_true rfl) dX4_trace_12) hS (fun r4 t3 H locs h hP hS => ?_)
    refine lv_if_ne (tgt := 20) hx hb dX4_trace_15 (by decide) (fun c9 => ?_) (fun c9 => ?_)
    · replace h := h.1 c9
      refine lv_iconst (v := 0) hx hb dX4_trace_20 (by decide) ?_
      refine lv_istore (lv' := [(4, .int 0), (3, .ref (adr i2)), (0, .ref (adr 0)), (1, .int a0), (2, .int a1)]) hx hb dX4_trace_21 hl (by decide) rfl (fun ls hl => ?_)
      refine lv_iload_n hx hb dX4_trace_23 rfl (lv_at hl 4 rfl) ?_
      refine lv_istore (lv' := [(5, .int a1), (4, .int 0), (3, .ref (adr i2)), (0, .ref (adr 0)), (1, .int a0), (2, .int a1)]) hx hb dX4_trace_24 hl (by decide) rfl (fun ls hl => ?_)
      refine lv_iconst (v := 0) hx hb dX4_trace_26 (by decide) ?_
      refine lv_istore (lv' := [(6, .int 0), (5, .int a1), (4, .int 0), (3, .ref (adr i2)), (0, .ref (adr 0)), (1, .int a0), (2, .int a1)]) hx hb dX4_trace_27 hl (by decide) rfl (fun ls hl => ?_)
      obtain ⟨n9, h⟩ := h
      exact k_X4_trace_29 hN C i2 hi2 n9 a0 0 a1 0 t3 _ _ _ h hP hS (lv_sub hl [4, 5, 3, 2, 1, 0] rfl)
    · replace h := h.2 c9
      refine lv_iconst (v := (-1)) hx hb dX4_trace_18 (by decide) ?_
      exact fr_iret C hP hS h dX4_trace_19

/-! X4.forms -/
abbrev wm_X4_forms : List Cond := Cond.code yX4_forms cX4_forms 8 (some .int) :: wsL_law
def q_X4_forms_112 (i2 : Nat) (post : Int32 → fcS → Prop) : Nat → Int32 → Int32 → Int32 → Int32 → fcS → Prop
  | 0, _, _, _, _, _ => False
  | n + 1, v3, v4, v6, v7, t => ((fgi t i2 5) ≤ v7 → (post v6 t)) ∧ (¬ (fgi t i2 5) ≤ v7 → (q_X2_product t i2 v7 v7 (fun (r11 : Int32) (t10 : fcS) => q_X2_product t10 i2 v3 r11 (fun (r13 : Int32) (t12 : fcS) => q_X3_difference t12 v4 r13 (fun (r15 : Int32) (t14 : fcS) => q_X4_at t14 4 343 r15 (fun (r17 : Int32) (t16 : fcS) => ∀ x18 : Int32, x18 = (v6 + r17) → (∀ x19 : Int32, x19 = v7 + 1 → (q_X4_forms_112 i2 post n v3 v4 x18 x19 t16))))))))
def q_X4_forms_53 (i2 : Nat) (post : Int32 → fcS → Prop) : Nat → Int32 → Int32 → Int32 → Int32 → fcS → Prop
  | 0, _, _, _, _, _ => False
  | n + 1, v2, v3, v4, v6, t => ((fgi t i2 5) ≤ v6 → (∃ n0, q_X4_forms_112 i2 post n0 v3 v4 0 0 t)) ∧ (¬ (fgi t i2 5) ≤ v6 → (q_X2_product t i2 v6 v6 (fun (r21 : Int32) (t20 : fcS) => q_X2_product t20 i2 v2 r21 (fun (r23 : Int32) (t22 : fcS) => q_X4_at t22 4 343 r23 (fun (r25 : Int32) (t24 : fcS) => q_X4_put t24 4 343 r23 ((r25 + 1)) (fun (t26 : fcS) => ∀ x27 : Int32, x27 = v6 + 1 → (q_X4_forms_53 i2 post n v2 v3 v4 x27 t26)))))))
def q_X4_forms (t : fcS) (a0 : Int32) (a1 : Int32) (a2 : Int32) (a3 : Int32) (post : Int32 → fcS → Prop) : Prop := q_X4_fieldAt t a0 (fun (r : Option Nat) (t1 : fcS) => (r = none → (post ((-1)) t1)) ∧ (∀ i2 : Nat, r = some i2 → (fisF i2 ∧ (q_X2_has t1 i2 a1 (fun (r4 : Int32) (t3 : fcS) => (r4 = 0 → (post ((-1)) t3)) ∧ (¬ r4 = 0 → (q_X2_has t3 i2 a2 (fun (r6 : Int32) (t5 : fcS) => (r6 = 0 → (post ((-1)) t5)) ∧ (¬ r6 = 0 → (q_X2_has t5 i2 a3 (fun (r8 : Int32) (t7 : fcS) => (¬ r8 = 0 → (q_J7_fill_53178 t7 4 343 0 (fun (t9 : fcS) => ∃ n0, q_X4_forms_53 i2 post n0 a1 a2 a3 0 t9))) ∧ (r8 = 0 → (post ((-1)) t7)))))))))))))
set_option maxHeartbeats 4000000 in
set_option maxRecDepth 100000 in
theorem k_X4_forms_112 {D : va_G} {adr : Nat → Nat} {cs : Nat → ClassId} {N : Nat} (hN : 53 ≤ N) {p : Program} {l : Launch} {e : Env} {s : State} {m : MethodId} {args : Array Value} {below : List Frame} {meth : Method} {c : Code} (C : fCx D adr cs N p s m args meth c cX4_forms 8 (some .int) RX4 wm_X4_forms) (i2 : Nat) (hi2 : fisF i2) {post : Int32 → fcS → Prop} : ∀ (n : Nat) (v3 : Int32) (v4 : Int32) (v6 : Int32) (v7 : Int32) (t : fcS) (H : Heap) (locs : List Loc) (ls : Array Slot), q_X4_forms_112 i2 post n v3 v4 v6 v7 t → va_P D vwCl (fwl adr N (fG adr cs t)) H → va_S (faN adr N) s.heap H locs → lv_has ls 8 [(0, .ref (adr 0)), (3, .int v3), (4, .int v4), (5, .ref (adr i2)), (6, .int v6), (7, .int v7)] → W p l e ({ frames := 5, cells := 0, slots := 0, locals := 123 } : Room) s m args below meth c H locs 0 0 (MQ below (fQi D adr cs N post) args s 0 0 (faN adr N)) (F0 m 112 ls []) := by
  have hx := C.1.1
  have hb := C.1.2.1
  intro n
  induction n with
  | zero => intro v3 v4 v6 v7 t H locs ls h; exact False.elim h
  | succ n ih =>
    intro v3 v4 v6 v7 t H locs ls h hP hS hl
    unfold q_X4_forms_112 at h
    refine lv_iload hx hb dX4_forms_112 (lv_at hl 5 rfl) ?_
    refine lv_aload hx hb dX4_forms_114 (lv_at hl 3 rfl) ?_
    refine fr_getN (j := 5) C hP (by have := hi2.2.1; omega) (fG_FI adr cs t hi2) rfl (fun w h => List.mem_cons_of_mem _ (inl_X2 w h)) (by decide) rfl (by decide +kernel) rfl dX4_forms_116 ?_
    refine lv_icmp_ge (tgt := 164) hx hb dX4_forms_119 (by decide) (fun c9 => ?_) (fun c9 => ?_)
    · replace h := h.1 c9
      refine lv_iload hx hb dX4_forms_164 (lv_at hl 4 rfl) ?_
      exact fr_iret C hP hS h dX4_forms_166
    · replace h := h.2 c9
      refine lv_iload hx hb dX4_forms_122 (lv_at hl 4 rfl) ?_
      refine lv_aload_n hx hb dX4_forms_124 rfl (lv_at hl 0 rfl) ?_
      refine fr_get (j := 3) C hP (by omega) (fG_FC adr cs t) rfl (fun w h => List.mem_cons_of_mem _ (inl_X4 w h)) (by decide) rfl (List.mem_cons_of_mem _ mw_1_21) rfl dX4_forms_125 ?_
      refine lv_aload_n hx hb dX4_forms_128 rfl (lv_at hl 0 rfl) ?_
      refine fr_get (j := 0) C hP (by omega) (fG_FC adr cs t) rfl (fun w h => List.mem_cons_of_mem _ (inl_X4 w h)) (by decide) rfl (List.mem_cons_of_mem _ mw_1_15) rfl dX4_forms_129 ?_
      refine lv_iload hx hb dX4_forms_132 (lv_at hl 2 rfl) ?_
      refine lv_aload hx hb dX4_forms_134 (lv_at hl 3 rfl) ?_
      refine lv_iload_n hx hb dX4_forms_136 rfl (lv_at hl 1 rfl) ?_
      refine lv_aload hx hb dX4_forms_137 (lv_at hl 3 rfl) ?_
      refine lv_iload hx hb dX4_forms_139 (lv_at hl 5 rfl) ?_
      refine lv_iload hx hb dX4_forms_141 (lv_at hl 5 rfl) ?_
      refine fr_ci (fr_runV (n := 2) (rest := [.int v3, .ref (adr i2), .int v4, .ref (adr 1), .ref (adr 4), .int v6]) C (c_X2_product l D adr cs hN t i2 hi2 v7 v7 _ h) hP hS (by have := hi2.2.1; omega) (fG_FI adr cs t hi2) rfl (fgV mw_12_15 mw_12_16 mw_12_17 mw_2_2 mw_12_18) rfl rfl rfl (by decide +kernel) ⟨Nat.le_of_ble_eq_true rfl, Nat.le_of_ble_eq_true rfl⟩ rfl hl.1 rfl (Nat.le_of_ble_eq_true rfl) dX4_forms_143) hS (fun r11 t10 H locs h hP hS => ?_)
      refine fr_ci (fr_runV (n := 2) (rest := [.int v4, .ref (adr 1), .ref (adr 4), .int v6]) C (c_X2_product l D adr cs hN t10 i2 hi2 v3 r11 _ h) hP hS (by have := hi2.2.1; omega) (fG_FI adr cs t10 hi2) rfl (fgV mw_12_15 mw_12_16 mw_12_17 mw_2_2 mw_12_18) rfl rfl rfl (by decide +kernel) ⟨Nat.le_of_ble_eq_true rfl, Nat.le_of_ble_eq_true rfl⟩ rfl hl.1 rfl (Nat.le_of_ble_eq_true rfl) dX4_forms_146) hS (fun r13 t12 H locs h hP hS => ?_)
      refine fr_ci (fr_runV (n := 2) (rest := [.ref (adr 4), .int v6]) C (c_X3_difference l D adr cs hN t12 v4 r13 _ h) hP hS (by omega) (fG_PO adr cs t12) rfl (fgV mw_15_15 mw_6_1 mw_6_2 mw_1_14 mw_6_3) rfl rfl rfl (by decide +kernel) ⟨Nat.le_of_ble_eq_true rfl, Nat.le_of_ble_eq_true rfl⟩ rfl hl.1 rfl (Nat.le_of_ble_eq_true rfl) dX4_forms_149) hS (fun r15 t14 H locs h hP hS => ?_)
      refine fr_ci (fr_runS (n := 2) (rest := [.int v6]) C (c_X4_at l D adr cs hN t14 4 343 (fun u => (fG_4 adr cs u)) (by omega) r15 _ h) hP hS (fgS mw_15_13 mw_6_19 mw_1_2 mw_6_20) rfl rfl rfl (by decide +kernel) ⟨Nat.le_of_ble_eq_true rfl, Nat.le_of_ble_eq_true rfl⟩ rfl hl.1 rfl (Nat.le_of_ble_eq_true rfl) dX4_forms_152) hS (fun r17 t16 H locs h hP hS => ?_)
      refine lv_iadd hx hb dX4_forms_155 ?_
      refine lv_topi (fun x18 ex18 => ?_)
      replace h := h x18 ex18
      refine lv_istore (lv' := [(6, .int x18), (0, .ref (adr 0)), (3, .int v3), (4, .int v4), (5, .ref (adr i2)), (7, .int v7)]) hx hb dX4_forms_156 hl (by decide) rfl (fun ls hl => ?_)
      obtain ⟨x19, ex19⟩ : ∃ y : Int32, y = v7 + 1 := ⟨_, rfl⟩
      replace h := h x19 ex19
      refine lv_iinc (v := x19) (lv' := [(7, .int x19), (6, .int x18), (0, .ref (adr 0)), (3, .int v3), (4, .int v4), (5, .ref (adr i2))]) hx hb dX4_forms_158 hl (k := 5) rfl (by rw [ex19]; rfl) (by decide) rfl (fun ls hl => ?_)
      refine lv_goto (tgt := 112) hx hb dX4_forms_161 (by decide) ?_
      exact ih v3 v4 x18 x19 t16 _ _ _ h hP hS (lv_sub hl [2, 3, 4, 5, 1, 0] rfl)

set_option maxHeartbeats 4000000 in
set_option maxRecDepth 100000 in
theorem k_X4_forms_53 {D : va_G} {adr : Nat → Nat} {cs : Nat → ClassId} {N : Nat} (hN : 53 ≤ N) {p : Program} {l : Launch} {e : Env} {s : State} {m : MethodId} {args : Array Value} {below : List Frame} {meth : Method} {c : Code} (C : fCx D adr cs N p s m args meth c cX4_forms 8 (some .int) RX4 wm_X4_forms) (i2 : Nat) (hi2 : fisF i2) {post : Int32 → fcS → Prop} : ∀ (n : Nat) (v2 : Int32) (v3 : Int32) (v4 : Int32) (v6 : Int32) (t : fcS) (H : Heap) (locs : List Loc) (ls : Array Slot), q_X4_forms_53 i2 post n v2 v3 v4 v6 t → va_P D vwCl (fwl adr N (fG adr cs t)) H → va_S (faN adr N) s.heap H locs → lv_has ls 8 [(0, .ref (adr 0)), (2, .int v2), (3, .int v3), (4, .int v4), (5, .ref (adr i2)), (6, .int v6)] → W p l e ({ frames := 5, cells := 0, slots := 0, locals := 123 } : Room) s m args below meth c H locs 0 0 (MQ below (fQi D adr cs N post) args s 0 0 (faN adr N)) (F0 m 53 ls []) := by
  have hx := C.1.1
  have hb := C.1.2.1
  intro n
  induction n with
  | zero => intro v2 v3 v4 v6 t H locs ls h; exact False.elim h
  | succ n ih =>
    intro v2 v3 v4 v6 t H locs ls h hP hS hl
    unfold q_X4_forms_53 at h
    refine lv_iload hx hb dX4_forms_53 (lv_at hl 5 rfl) ?_
    refine lv_aload hx hb dX4_forms_55 (lv_at hl 4 rfl) ?_
    refine fr_getN (j := 5) C hP (by have := hi2.2.1; omega) (fG_FI adr cs t hi2) rfl (fun w h => List.mem_cons_of_mem _ (inl_X2 w h)) (by decide) rfl (by decide +kernel) rfl dX4_forms_57 ?_
    refine lv_icmp_ge (tgt := 106) hx hb dX4_forms_60 (by decide) (fun c9 => ?_) (fun c9 => ?_)
    · replace h := h.1 c9
      refine lv_iconst (v := 0) hx hb dX4_forms_106 (by decide) ?_
      refine lv_istore (lv' := [(6, .int 0), (0, .ref (adr 0)), (2, .int v2), (3, .int v3), (4, .int v4), (5, .ref (adr i2))]) hx hb dX4_forms_107 hl (by decide) rfl (fun ls hl => ?_)
      refine lv_iconst (v := 0) hx hb dX4_forms_109 (by decide) ?_
      refine lv_istore (lv' := [(7, .int 0), (6, .int 0), (0, .ref (adr 0)), (2, .int v2), (3, .int v3), (4, .int v4), (5, .ref (adr i2))]) hx hb dX4_forms_110 hl (by decide) rfl (fun ls hl => ?_)
      obtain ⟨n9, h⟩ := h
      exact k_X4_forms_112 hN C i2 hi2 n9 v3 v4 0 0 t _ _ _ h hP hS (lv_sub hl [2, 4, 5, 6, 1, 0] rfl)
    · replace h := h.2 c9
      refine lv_aload hx hb dX4_forms_63 (lv_at hl 4 rfl) ?_
      refine lv_iload_n hx hb dX4_forms_65 rfl (lv_at hl 1 rfl) ?_
      refine lv_aload hx hb dX4_forms_66 (lv_at hl 4 rfl) ?_
      refine lv_iload hx hb dX4_forms_68 (lv_at hl 5 rfl) ?_
      refine lv_iload hx hb dX4_forms_70 (lv_at hl 5 rfl) ?_
      refine fr_ci (fr_runV (n := 2) (rest := [.int v2, .ref (adr i2)]) C (c_X2_product l D adr cs hN t i2 hi2 v6 v6 _ h) hP hS (by have := hi2.2.1; omega) (fG_FI adr cs t hi2) rfl (fgV mw_12_15 mw_12_16 mw_12_17 mw_2_2 mw_12_18) rfl rfl rfl (by decide +kernel) ⟨Nat.le_of_ble_eq_true rfl, Nat.le_of_ble_eq_true rfl⟩ rfl hl.1 rfl (Nat.le_of_ble_eq_true rfl) dX4_forms_72) hS (fun r21 t20 H locs h hP hS => ?_)
      refine fr_ci (fr_runV (n := 2) (rest := []) C (c_X2_product l D adr cs hN t20 i2 hi2 v2 r21 _ h) hP hS (by have := hi2.2.1; omega) (fG_FI adr cs t20 hi2) rfl (fgV mw_12_15 mw_12_16 mw_12_17 mw_2_2 mw_12_18) rfl rfl rfl (by decide +kernel) ⟨Nat.le_of_ble_eq_true rfl, Nat.le_of_ble_eq_true rfl⟩ rfl hl.1 rfl (Nat.le_of_ble_eq_true rfl) dX4_forms_75) hS (fun r23 t22 H locs h hP hS => ?_)
      refine lv_istore (lv' := [(7, .int r23), (0, .ref (adr 0)), (2, .int v2), (3, .int v3), (4, .int v4), (5, .ref (adr i2)), (6, .int v6)]) hx hb dX4_forms_78 hl (by decide) rfl (fun ls hl => ?_)
      refine lv_aload_n hx hb dX4_forms_80 rfl (lv_at hl 1 rfl) ?_
      refine fr_get (j := 3) C hP (by omega) (fG_FC adr cs t22) rfl (fun w h => List.mem_cons_of_mem _ (inl_X4 w h)) (by decide) rfl (List.mem_cons_of_mem _ mw_1_21) rfl dX4_forms_81 ?_
      refine lv_iload hx hb dX4_forms_84 (lv_at hl 0 rfl) ?_
      refine lv_aload_n hx hb dX4_forms_86 rfl (lv_at hl 1 rfl) ?_
      refine fr_get (j := 3) C hP (by omega) (fG_FC adr cs t22) rfl (fun w h => List.mem_cons_of_mem _ (inl_X4 w h)) (by decide) rfl (List.mem_cons_of_mem _ mw_1_21) rfl dX4_forms_87 ?_
      refine lv_iload hx hb dX4_forms_90 (lv_at hl 0 rfl) ?_
      refine fr_ci (fr_runS (n := 2) (rest := [.int r23, .ref (adr 4)]) C (c_X4_at l D adr cs hN t22 4 343 (fun u => (fG_4 adr cs u)) (by omega) r23 _ h) hP hS (fgS mw_15_13 mw_6_19 mw_1_2 mw_6_20) rfl rfl rfl (by decide +kernel) ⟨Nat.le_of_ble_eq_true rfl, Nat.le_of_ble_eq_true rfl⟩ rfl hl.1 rfl (Nat.le_of_ble_eq_true rfl) dX4_forms_92) hS (fun r25 t24 H locs h hP hS => ?_)
      refine lv_iconst (v := 1) hx hb dX4_forms_95 (by decide) ?_
      refine lv_iadd hx hb dX4_forms_96 ?_
      refine fr_cv (fr_runS (n := 3) (rest := []) C (c_X4_put l D adr cs hN t24 4 343 (fun u => (fG_4 adr cs u)) (by omega) r23 ((r25 + 1)) _ h) hP hS (fgS mw_15_14 mw_6_8 mw_1_2 mw_6_9) rfl rfl rfl (by decide +kernel) ⟨Nat.le_of_ble_eq_true rfl, Nat.le_of_ble_eq_true rfl⟩ rfl hl.1 rfl (Nat.le_of_ble_eq_true rfl) dX4_forms_97) hS (fun t26 H locs h hP hS => ?_)
      obtain ⟨x27, ex27⟩ : ∃ y : Int32, y = v6 + 1 := ⟨_, rfl⟩
      replace h := h x27 ex27
      refine lv_iinc (v := x27) (lv' := [(6, .int x27), (7, .int r23), (0, .ref (adr 0)), (2, .int v2), (3, .int v3), (4, .int v4), (5, .ref (adr i2))]) hx hb dX4_forms_100 hl (k := 6) rfl (by rw [ex27]; rfl) (by decide) rfl (fun ls hl => ?_)
      refine lv_goto (tgt := 53) hx hb dX4_forms_103 (by decide) ?_
      exact ih v2 v3 v4 x27 t26 _ _ _ h hP hS (lv_sub hl [2, 3, 4, 5, 6, 0] rfl)

set_option maxHeartbeats 4000000 in
set_option maxRecDepth 100000 in
theorem c_X4_forms (l : Launch) (D : va_G) (adr : Nat → Nat) (cs : Nat → ClassId) {N : Nat} (hN : 53 ≤ N) (t : fcS) (a0 : Int32) (a1 : Int32) (a2 : Int32) (a3 : Int32) (post : Int32 → fcS → Prop) (h : q_X4_forms t a0 a1 a2 a3 post) : Met l yX4_forms wm_X4_forms ({ frames := 5, cells := 0, slots := 0, locals := 123 } : Room) (fcPre D adr cs N t [.ref (adr 0), .int a0, .int a1, .int a2, .int a3]) (fQi D adr cs N post) 0 0 (faN adr N) := by
  refine f_enter (cc := cX4_forms) (nL := 8) (ret := some .int) (lv := [(0, .ref (adr 0)), (1, .int a0), (2, .int a1), (3, .int a2), (4, .int a3)]) (own := RX4) (by decide) rfl (Nat.le_of_ble_eq_true rfl) rfl rfl ?_
  intro p e s m below meth c ls C hP hS hl
  have hx := C.1.1
  have hb := C.1.2.1
  unfold q_X4_forms at h
  refine lv_aload_n hx hb dX4_forms_0 rfl (lv_at hl 0 rfl) ?_
  refine lv_iload_n hx hb dX4_forms_1 rfl (lv_at hl 1 rfl) ?_
  refine fr_cq (fr_runV (n := 1) (rest := []) C (c_X4_fieldAt l D adr cs hN t a0 _ h) hP hS (by omega) (fG_FC adr cs t) rfl (fgV mw_4_9 mw_4_10 mw_4_11 mw_1_2 mw_4_12) rfl rfl rfl (by decide +kernel) ⟨Nat.le_of_ble_eq_true rfl, Nat.le_of_ble_eq_true rfl⟩ rfl hl.1 rfl (Nat.le_of_ble_eq_true rfl) dX4_forms_2) hS (fun t1 H locs h hP hS => ?_) (fun i2 t1 H locs h hP hS => ?_)
  · replace h := h.1 rfl
    refine lv_astoreN (lv' := [(5, .null), (0, .ref (adr 0)), (1, .int a0), (2, .int a1), (3, .int a2), (4, .int a3)]) hx hb dX4_forms_5 hl (by decide) rfl (fun ls hl => ?_)
    refine lv_aloadN hx hb dX4_forms_7 (lv_at hl 0 rfl) ?_
    refine lv_ifnullN (tgt := 40) hx hb dX4_forms_9 (by decide) ?_
    refine lv_iconst (v := (-1)) hx hb dX4_forms_40 (by decide) ?_
    exact fr_iret C hP hS h dX4_forms_41
  · obtain ⟨hi2, h⟩ := h.2 i2 rfl
    refine lv_astore (lv' := [(5, .ref (adr i2)), (0, .ref (adr 0)), (1, .int a0), (2, .int a1), (3, .int a2), (4, .int a3)]) hx hb dX4_forms_5 hl (by decide) rfl (fun ls hl => ?_)
    refine lv_aload hx hb dX4_forms_7 (lv_at hl 0 rfl) ?_
    refine lv_ifnull hx hb dX4_forms_9 ?_
    refine lv_aload hx hb dX4_forms_12 (lv_at hl 0 rfl) ?_
    refine lv_iload_n hx hb dX4_forms_14 rfl (lv_at hl 3 rfl) ?_
    refine fr_ci (fr_runV (n := 1) (rest := []) C (c_X2_has l D adr cs hN t1 i2 hi2 a1 _ h) hP hS (by have := hi2.2.1; omega) (fG_FI adr cs t1 hi2) rfl (fgV mw_11_18 mw_11_19 mw_11_20 mw_2_2 mw_11_21) rfl rfl rfl (by decide +kernel) ⟨Nat.le_of_ble_eq_true rfl, Nat.le_of_ble_eq_true rfl⟩ rfl hl.1 rfl (Nat.le_of_ble_eq_true rfl) dX4_forms_15) hS (fun r4 t3 H locs h hP hS => ?_)
    refine lv_if_eq (tgt := 40) hx hb dX4_forms_18 (by decide) (fun c9 => ?_) (fun c9 => ?_)
    · replace h := h.1 c9
      refine lv_iconst (v := (-1)) hx hb dX4_forms_40 (by decide) ?_
      exact fr_iret C hP hS h dX4_forms_41
    · replace h := h.2 c9
      refine lv_aload hx hb dX4_forms_21 (lv_at hl 0 rfl) ?_
      refine lv_iload_n hx hb dX4_forms_23 rfl (lv_at hl 4 rfl) ?_
      refine fr_ci (fr_runV (n := 1) (rest := []) C (c_X2_has l D adr cs hN t3 i2 hi2 a2 _ h) hP hS (by have := hi2.2.1; omega) (fG_FI adr cs t3 hi2) rfl (fgV mw_11_18 mw_11_19 mw_11_20 mw_2_2 mw_11_21) rfl rfl rfl (by decide +kernel) ⟨Nat.le_of_ble_eq_true rfl, Nat.le_of_ble_eq_true rfl⟩ rfl hl.1 rfl (Nat.le_of_ble_eq_true rfl) dX4_forms_24) hS (fun r6 t5 H locs h hP hS => ?_)
      refine lv_if_eq (tgt := 40) hx hb dX4_forms_27 (by decide) (fun c9 => ?_) (fun c9 => ?_)
      · replace h := h.1 c9
        refine lv_iconst (v := (-1)) hx hb dX4_forms_40 (by decide) ?_
        exact fr_iret C hP hS h dX4_forms_41
      · replace h := h.2 c9
        refine lv_aload hx hb dX4_forms_30 (lv_at hl 0 rfl) ?_
        refine lv_iload hx hb dX4_forms_32 (lv_at hl 5 rfl) ?_
        refine fr_ci (fr_runV (n := 1) (rest := []) C (c_X2_has l D adr cs hN t5 i2 hi2 a3 _ h) hP hS (by have := hi2.2.1; omega) (fG_FI adr cs t5 hi2) rfl (fgV mw_11_18 mw_11_19 mw_11_20 mw_2_2 mw_11_21) rfl rfl rfl (by decide +kernel) ⟨Nat.le_of_ble_eq_true rfl, Nat.le_of_ble_eq_true rfl⟩ rfl hl.1 rfl (Nat.le_of_ble_eq_true rfl) dX4_forms_34) hS (fun r8 t7 H locs h hP hS => ?_)
        refine lv_if_ne (tgt := 42) hx hb dX4_forms_37 (by decide) (fun c9 => ?_) (fun c9 => ?_)
        · replace h := h.1 c9
          refine lv_aload_n hx hb dX4_forms_42 rfl (lv_at hl 1 rfl) ?_
          refine fr_get (j := 3) C hP (by omega) (fG_FC adr cs t7) rfl (fun w h => List.mem_cons_of_mem _ (inl_X4 w h)) (by decide) rfl (List.mem_cons_of_mem _ mw_1_21) rfl dX4_forms_43 ?_
          refine lv_iconst (v := 0) hx hb dX4_forms_46 (by decide) ?_
          refine fr_cv (fr_runS (n := 2) (rest := []) C (c_J7_fill_53178 l D adr cs hN t7 4 343 (fun u => (fG_4 adr cs u)) (by omega) 0 _ h) hP hS (fgS mw_15_9 mw_15_10 mw_15_11 mw_15_12) rfl rfl rfl (by decide +kernel) ⟨Nat.le_of_ble_eq_true rfl, Nat.le_of_ble_eq_true rfl⟩ rfl hl.1 rfl (Nat.le_of_ble_eq_true rfl) dX4_forms_47) hS (fun t9 H locs h hP hS => ?_)
          refine lv_iconst (v := 0) hx hb dX4_forms_50 (by decide) ?_
          refine lv_istore (lv' := [(6, .int 0), (5, .ref (adr i2)), (0, .ref (adr 0)), (1, .int a0), (2, .int a1), (3, .int a2), (4, .int a3)]) hx hb dX4_forms_51 hl (by decide) rfl (fun ls hl => ?_)
          obtain ⟨n9, h⟩ := h
          exact k_X4_forms_53 hN C i2 hi2 n9 a1 a2 a3 0 t9 _ _ _ h hP hS (lv_sub hl [2, 4, 5, 6, 1, 0] rfl)
        · replace h := h.2 c9
          refine lv_iconst (v := (-1)) hx hb dX4_forms_40 (by decide) ?_
          exact fr_iret C hP hS h dX4_forms_41

/-! X4.isCurvePolynomial -/
abbrev wm_X4_isCurvePolynomial : List Cond := Cond.code yX4_isCurvePolynomial cX4_isCurvePolynomial 2 (some .boolean) :: wsL_law
def q_X4_isCurvePolynomial (t : fcS) (a0 : Int32) (post : Int32 → fcS → Prop) : Prop := q_X3_place t 3 (fun (r2 : Int32) (t1 : fcS) => (a0 < r2 → (post 0 t1)) ∧ (¬ a0 < r2 → (q_X3_place t1 7 (fun (r4 : Int32) (t3 : fcS) => (r4 ≤ a0 → (post 0 t3)) ∧ (¬ r4 ≤ a0 → (post 1 t3))))))
set_option maxHeartbeats 4000000 in
set_option maxRecDepth 100000 in
theorem c_X4_isCurvePolynomial (l : Launch) (D : va_G) (adr : Nat → Nat) (cs : Nat → ClassId) {N : Nat} (hN : 53 ≤ N) (t : fcS) (a0 : Int32) (post : Int32 → fcS → Prop) (h : q_X4_isCurvePolynomial t a0 post) : Met l yX4_isCurvePolynomial wm_X4_isCurvePolynomial ({ frames := 1, cells := 0, slots := 0, locals := 23 } : Room) (fcPre D adr cs N t [.ref (adr 0), .int a0]) (fQi D adr cs N post) 0 0 (faN adr N) := by
  refine f_enter (cc := cX4_isCurvePolynomial) (nL := 2) (ret := some .boolean) (lv := [(0, .ref (adr 0)), (1, .int a0)]) (own := RX4) (by decide) rfl (Nat.le_of_ble_eq_true rfl) rfl rfl ?_
  intro p e s m below meth c ls C hP hS hl
  have hx := C.1.1
  have hb := C.1.2.1
  unfold q_X4_isCurvePolynomial at h
  refine lv_iload_n hx hb dX4_isCurvePolynomial_0 rfl (lv_at hl 1 rfl) ?_
  refine lv_aload_n hx hb dX4_isCurvePolynomial_1 rfl (lv_at hl 0 rfl) ?_
  refine fr_get (j := 0) C hP (by omega) (fG_FC adr cs t) rfl (fun w h => List.mem_cons_of_mem _ (inl_X4 w h)) (by decide) rfl (List.mem_cons_of_mem _ mw_1_15) rfl dX4_isCurvePolynomial_2 ?_
  refine lv_iconst (v := 3) hx hb dX4_isCurvePolynomial_5 (by decide) ?_
  refine fr_ci (fr_runV (n := 1) (rest := [.int a0]) C (c_X3_place l D adr cs hN t 3 _ h) hP hS (by omega) (fG_PO adr cs t) rfl (fgV mw_4_5 mw_4_6 mw_4_7 mw_1_14 mw_4_8) rfl rfl rfl (by decide +kernel) ⟨Nat.le_of_ble_eq_true rfl, Nat.le_of_ble_eq_true rfl⟩ rfl hl.1 rfl (Nat.le_of_ble_eq_true rfl) dX4_isCurvePolynomial_6) hS (fun r2 t1 H locs h hP hS => ?_)
  refine lv_icmp_lt (tgt := 29) hx hb dX4_isCurvePolynomial_9 (by decide) (fun c9 => ?_) (fun c9 => ?_)
  · replace h := h.1 c9
    refine lv_iconst (v := 0) hx hb dX4_isCurvePolynomial_29 (by decide) ?_
    exact fr_zret C hP hS rfl h dX4_isCurvePolynomial_30
  · replace h := h.2 c9
    refine lv_iload_n hx hb dX4_isCurvePolynomial_12 rfl (lv_at hl 1 rfl) ?_
    refine lv_aload_n hx hb dX4_isCurvePolynomial_13 rfl (lv_at hl 0 rfl) ?_
    refine fr_get (j := 0) C hP (by omega) (fG_FC adr cs t1) rfl (fun w h => List.mem_cons_of_mem _ (inl_X4 w h)) (by decide) rfl (List.mem_cons_of_mem _ mw_1_15) rfl dX4_isCurvePolynomial_14 ?_
    refine lv_bipush (v := 7) hx hb dX4_isCurvePolynomial_17 (by decide) ?_
    refine fr_ci (fr_runV (n := 1) (rest := [.int a0]) C (c_X3_place l D adr cs hN t1 7 _ h) hP hS (by omega) (fG_PO adr cs t1) rfl (fgV mw_4_5 mw_4_6 mw_4_7 mw_1_14 mw_4_8) rfl rfl rfl (by decide +kernel) ⟨Nat.le_of_ble_eq_true rfl, Nat.le_of_ble_eq_true rfl⟩ rfl hl.1 rfl (Nat.le_of_ble_eq_true rfl) dX4_isCurvePolynomial_19) hS (fun r4 t3 H locs h hP hS => ?_)
    refine lv_icmp_ge (tgt := 29) hx hb dX4_isCurvePolynomial_22 (by decide) (fun c9 => ?_) (fun c9 => ?_)
    · replace h := h.1 c9
      refine lv_iconst (v := 0) hx hb dX4_isCurvePolynomial_29 (by decide) ?_
      exact fr_zret C hP hS rfl h dX4_isCurvePolynomial_30
    · replace h := h.2 c9
      refine lv_iconst (v := 1) hx hb dX4_isCurvePolynomial_25 (by decide) ?_
      refine lv_goto (tgt := 30) hx hb dX4_isCurvePolynomial_26 (by decide) ?_
      exact fr_zret C hP hS rfl h dX4_isCurvePolynomial_30

/-! X4.curve -/
abbrev wm_X4_curve : List Cond := Cond.code yX4_curve cX4_curve 5 (some .int) :: wsL_law
def q_X4_curve_41 (post : Int32 → fcS → Prop) (v1 : Int32) (v2 : Int32) (v3 : Int32) (t : fcS) : Prop := q_X3_knotOf t v2 (fun (r4 : Int32) (t3 : fcS) => q_X3_degree t3 r4 (fun (r6 : Int32) (t5 : fcS) => (r6 ≤ 0 → (∀ t7 : fcS, t7 = fsi t5 0 8 ((-9)) → (((fgi t7 0 6) < 8 → ((vp_in ((fgi t7 0 6)) 8) ∧ (∀ i8 : Nat, i8 = 21 + 4 * Int32.toNatClampNeg ((fgi t7 0 6)) → (q_X1_begin t7 i8 v1 v2 v3 ((fgi t7 0 7)) (fun (t9 : fcS) => ∀ t10 : fcS, t10 = fsi t9 0 6 (((fgi t9 0 6) + 1)) → (post (((fgi t10 0 6) - 1)) t10)))))) ∧ (¬ (fgi t7 0 6) < 8 → (post ((-3)) t7))))) ∧ (¬ r6 ≤ 0 → (∀ t11 : fcS, t11 = fsi t5 0 8 r4 → (post ((-2)) t11)))))
def q_X4_curve (t : fcS) (a0 : Int32) (a1 : Int32) (a2 : Int32) (post : Int32 → fcS → Prop) : Prop := (a0 < 0 → (post ((-1)) t)) ∧ (¬ a0 < 0 → ((2 < a0 → (post ((-1)) t)) ∧ (¬ 2 < a0 → (q_X4_isCurvePolynomial t a1 (fun (r2 : Int32) (t1 : fcS) => (¬ r2 = 0 → ((¬ a0 = 2 → (q_X4_curve_41 post a0 a1 a2 t1)) ∧ (a0 = 2 → ((a2 < 0 → (post ((-1)) t1)) ∧ (¬ a2 < 0 → ((a2 < (fgi t1 1 0) → (q_X4_curve_41 post a0 a1 a2 t1)) ∧ (¬ a2 < (fgi t1 1 0) → (post ((-1)) t1)))))))) ∧ (r2 = 0 → (post ((-1)) t1)))))))
set_option maxHeartbeats 4000000 in
set_option maxRecDepth 100000 in
theorem k_X4_curve_41 {D : va_G} {adr : Nat → Nat} {cs : Nat → ClassId} {N : Nat} (hN : 53 ≤ N) {p : Program} {l : Launch} {e : Env} {s : State} {m : MethodId} {args : Array Value} {below : List Frame} {meth : Method} {c : Code} (C : fCx D adr cs N p s m args meth c cX4_curve 5 (some .int) RX4 wm_X4_curve) {post : Int32 → fcS → Prop} : ∀ (v1 : Int32) (v2 : Int32) (v3 : Int32) (t : fcS) (H : Heap) (locs : List Loc) (ls : Array Slot), q_X4_curve_41 post v1 v2 v3 t → va_P D vwCl (fwl adr N (fG adr cs t)) H → va_S (faN adr N) s.heap H locs → lv_has ls 5 [(0, .ref (adr 0)), (1, .int v1), (2, .int v2), (3, .int v3)] → W p l e ({ frames := 4, cells := 0, slots := 0, locals := 101 } : Room) s m args below meth c H locs 0 0 (MQ below (fQi D adr cs N post) args s 0 0 (faN adr N)) (F0 m 41 ls []) := by
  have hx := C.1.1
  have hb := C.1.2.1
  intro v1 v2 v3 t H locs ls h hP hS hl
  unfold q_X4_curve_41 at h
  refine lv_aload_n hx hb dX4_curve_41 rfl (lv_at hl 0 rfl) ?_
  refine fr_get (j := 0) C hP (by omega) (fG_FC adr cs t) rfl (fun w h => List.mem_cons_of_mem _ (inl_X4 w h)) (by decide) rfl (List.mem_cons_of_mem _ mw_1_15) rfl dX4_curve_42 ?_
  refine lv_iload_n hx hb dX4_curve_45 rfl (lv_at hl 2 rfl) ?_
  refine fr_ci (fr_runV (n := 1) (rest := []) C (c_X3_knotOf l D adr cs hN t v2 _ h) hP hS (by omega) (fG_PO adr cs t) rfl (fgV mw_16_4 mw_16_5 mw_16_6 mw_1_14 mw_16_7) rfl rfl rfl (by decide +kernel) ⟨Nat.le_of_ble_eq_true rfl, Nat.le_of_ble_eq_true rfl⟩ rfl hl.1 rfl (Nat.le_of_ble_eq_true rfl) dX4_curve_46) hS (fun r4 t3 H locs h hP hS => ?_)
  refine lv_istore (lv' := [(4, .int r4), (0, .ref (adr 0)), (1, .int v1), (2, .int v2), (3, .int v3)]) hx hb dX4_curve_49 hl (by decide) rfl (fun ls hl => ?_)
  refine lv_aload_n hx hb dX4_curve_51 rfl (lv_at hl 1 rfl) ?_
  refine fr_get (j := 0) C hP (by omega) (fG_FC adr cs t3) rfl (fun w h => List.mem_cons_of_mem _ (inl_X4 w h)) (by decide) rfl (List.mem_cons_of_mem _ mw_1_15) rfl dX4_curve_52 ?_
  refine lv_iload hx hb dX4_curve_55 (lv_at hl 0 rfl) ?_
  refine fr_ci (fr_runV (n := 1) (rest := []) C (c_X3_degree l D adr cs hN t3 r4 _ h) hP hS (by omega) (fG_PO adr cs t3) rfl (fgV mw_16_20 mw_5_5 mw_5_6 mw_1_14 mw_5_7) rfl rfl rfl (by decide +kernel) ⟨Nat.le_of_ble_eq_true rfl, Nat.le_of_ble_eq_true rfl⟩ rfl hl.1 rfl (Nat.le_of_ble_eq_true rfl) dX4_curve_57) hS (fun r6 t5 H locs h hP hS => ?_)
  refine lv_if_le (tgt := 72) hx hb dX4_curve_60 (by decide) (fun c9 => ?_) (fun c9 => ?_)
  · replace h := h.1 c9
    refine lv_aload_n hx hb dX4_curve_72 rfl (lv_at hl 1 rfl) ?_
    refine lv_bipush (v := (-9)) hx hb dX4_curve_73 (by decide) ?_
    refine fr_put C (fsi t5 0 8 ((-9))) (j := 8) (ty := .int) hP hS (by omega) (fG_FC adr cs t5) rfl (fun w h => List.mem_cons_of_mem _ (inl_X4 w h)) tyX4_ok nmX4 (by decide) rfl (List.mem_cons_of_mem _ mw_2_0) rfl (by decide +kernel) rfl rfl (Nat.le_of_ble_eq_true rfl) (fS_FC_8 adr cs t5 ((-9))) (fG_fsi_ne adr cs t5 0 8 ((-9))) dX4_curve_75 (fun H locs hP hS => ?_)
    obtain ⟨t7, et7⟩ : ∃ y : fcS, y = fsi t5 0 8 ((-9)) := ⟨_, rfl⟩
    rw [← et7] at hP
    replace h := h t7 et7
    refine lv_aload_n hx hb dX4_curve_78 rfl (lv_at hl 1 rfl) ?_
    refine fr_get (j := 6) C hP (by omega) (fG_FC adr cs t7) rfl (fun w h => List.mem_cons_of_mem _ (inl_X4 w h)) (by decide) rfl (List.mem_cons_of_mem _ mw_3_18) rfl dX4_curve_79 ?_
    refine lv_aload_n hx hb dX4_curve_82 rfl (lv_at hl 1 rfl) ?_
    refine fr_get (j := 2) C hP (by omega) (fG_FC adr cs t7) rfl (fun w h => List.mem_cons_of_mem _ (inl_X4 w h)) (by decide) rfl (List.mem_cons_of_mem _ mw_1_19) rfl dX4_curve_83 ?_
    refine fr_alen (q := 2) (v := 8) C hP (by omega) (fG_3 adr cs t7) rfl rfl dX4_curve_86 ?_
    refine lv_icmp_lt (tgt := 93) hx hb dX4_curve_87 (by decide) (fun c9 => ?_) (fun c9 => ?_)
    · replace h := h.1 c9
      refine lv_aload_n hx hb dX4_curve_93 rfl (lv_at hl 1 rfl) ?_
      refine fr_get (j := 2) C hP (by omega) (fG_FC adr cs t7) rfl (fun w h => List.mem_cons_of_mem _ (inl_X4 w h)) (by decide) rfl (List.mem_cons_of_mem _ mw_1_19) rfl dX4_curve_94 ?_
      refine lv_aload_n hx hb dX4_curve_97 rfl (lv_at hl 1 rfl) ?_
      refine fr_get (j := 6) C hP (by omega) (fG_FC adr cs t7) rfl (fun w h => List.mem_cons_of_mem _ (inl_X4 w h)) (by decide) rfl (List.mem_cons_of_mem _ mw_3_18) rfl dX4_curve_98 ?_
      refine fr_aaldC C hP (by omega) h.1 dX4_curve_101 (fun i8 ei8 hi8 => ?_)
      replace h := h.2 i8 ei8
      refine lv_iload_n hx hb dX4_curve_102 rfl (lv_at hl 2 rfl) ?_
      refine lv_iload_n hx hb dX4_curve_103 rfl (lv_at hl 3 rfl) ?_
      refine lv_iload_n hx hb dX4_curve_104 rfl (lv_at hl 4 rfl) ?_
      refine lv_aload_n hx hb dX4_curve_105 rfl (lv_at hl 1 rfl) ?_
      refine fr_get (j := 7) C hP (by omega) (fG_FC adr cs t7) rfl (fun w h => List.mem_cons_of_mem _ (inl_X4 w h)) (by decide) rfl (List.mem_cons_of_mem _ mw_3_20) rfl dX4_curve_106 ?_
      refine fr_cv (fr_runV (n := 4) (rest := []) C (c_X1_begin l D adr cs hN t7 i8 hi8 v1 v2 v3 ((fgi t7 0 7)) _ h) hP hS (by have := hi8.2.1; omega) (fG_CU adr cs t7 hi8) rfl (fgV mw_16_21 mw_16_22 mw_16_23 mw_2_4 mw_17_0) rfl rfl rfl (by decide +kernel) ⟨Nat.le_of_ble_eq_true rfl, Nat.le_of_ble_eq_true rfl⟩ rfl hl.1 rfl (Nat.le_of_ble_eq_true rfl) dX4_curve_109) hS (fun t9 H locs h hP hS => ?_)
      refine lv_aload_n hx hb dX4_curve_112 rfl (lv_at hl 1 rfl) ?_
      refine lv_dup hx hb dX4_curve_113 rfl ?_
      refine fr_get (j := 6) C hP (by omega) (fG_FC adr cs t9) rfl (fun w h => List.mem_cons_of_mem _ (inl_X4 w h)) (by decide) rfl (List.mem_cons_of_mem _ mw_3_18) rfl dX4_curve_114 ?_
      refine lv_iconst (v := 1) hx hb dX4_curve_117 (by decide) ?_
      refine lv_iadd hx hb dX4_curve_118 ?_
      refine fr_put C (fsi t9 0 6 (((fgi t9 0 6) + 1))) (j := 6) (ty := .int) hP hS (by omega) (fG_FC adr cs t9) rfl (fun w h => List.mem_cons_of_mem _ (inl_X4 w h)) tyX4_ok nmX4 (by decide) rfl (List.mem_cons_of_mem _ mw_3_18) rfl (by decide +kernel) rfl rfl (Nat.le_of_ble_eq_true rfl) (fS_FC_6 adr cs t9 (((fgi t9 0 6) + 1))) (fG_fsi_ne adr cs t9 0 6 (((fgi t9 0 6) + 1))) dX4_curve_119 (fun H locs hP hS => ?_)
      obtain ⟨t10, et10⟩ : ∃ y : fcS, y = fsi t9 0 6 (((fgi t9 0 6) + 1)) := ⟨_, rfl⟩
      rw [← et10] at hP
      replace h := h t10 et10
      refine lv_aload_n hx hb dX4_curve_122 rfl (lv_at hl 1 rfl) ?_
      refine fr_get (j := 6) C hP (by omega) (fG_FC adr cs t10) rfl (fun w h => List.mem_cons_of_mem _ (inl_X4 w h)) (by decide) rfl (List.mem_cons_of_mem _ mw_3_18) rfl dX4_curve_123 ?_
      refine lv_iconst (v := 1) hx hb dX4_curve_126 (by decide) ?_
      refine lv_isub hx hb dX4_curve_127 ?_
      exact fr_iret C hP hS h dX4_curve_128
    · replace h := h.2 c9
      refine lv_bipush (v := (-3)) hx hb dX4_curve_90 (by decide) ?_
      exact fr_iret C hP hS h dX4_curve_92
  · replace h := h.2 c9
    refine lv_aload_n hx hb dX4_curve_63 rfl (lv_at hl 1 rfl) ?_
    refine lv_iload hx hb dX4_curve_64 (lv_at hl 0 rfl) ?_
    refine fr_put C (fsi t5 0 8 r4) (j := 8) (ty := .int) hP hS (by omega) (fG_FC adr cs t5) rfl (fun w h => List.mem_cons_of_mem _ (inl_X4 w h)) tyX4_ok nmX4 (by decide) rfl (List.mem_cons_of_mem _ mw_2_0) rfl (by decide +kernel) rfl rfl (Nat.le_of_ble_eq_true rfl) (fS_FC_8 adr cs t5 r4) (fG_fsi_ne adr cs t5 0 8 r4) dX4_curve_66 (fun H locs hP hS => ?_)
    obtain ⟨t11, et11⟩ : ∃ y : fcS, y = fsi t5 0 8 r4 := ⟨_, rfl⟩
    rw [← et11] at hP
    replace h := h t11 et11
    refine lv_bipush (v := (-2)) hx hb dX4_curve_69 (by decide) ?_
    exact fr_iret C hP hS h dX4_curve_71

set_option maxHeartbeats 4000000 in
set_option maxRecDepth 100000 in
theorem c_X4_curve (l : Launch) (D : va_G) (adr : Nat → Nat) (cs : Nat → ClassId) {N : Nat} (hN : 53 ≤ N) (t : fcS) (a0 : Int32) (a1 : Int32) (a2 : Int32) (post : Int32 → fcS → Prop) (h : q_X4_curve t a0 a1 a2 post) : Met l yX4_curve wm_X4_curve ({ frames := 4, cells := 0, slots := 0, locals := 101 } : Room) (fcPre D adr cs N t [.ref (adr 0), .int a0, .int a1, .int a2]) (fQi D adr cs N post) 0 0 (faN adr N) := by
  refine f_enter (cc := cX4_curve) (nL := 5) (ret := some .int) (lv := [(0, .ref (adr 0)), (1, .int a0), (2, .int a1), (3, .int a2)]) (own := RX4) (by decide) rfl (Nat.le_of_ble_eq_true rfl) rfl rfl ?_
  intro p e s m below meth c ls C hP hS hl
  have hx := C.1.1
  have hb := C.1.2.1
  unfold q_X4_curve at h
  refine lv_iload_n hx hb dX4_curve_0 rfl (lv_at hl 1 rfl) ?_
  refine lv_if_lt (tgt := 17) hx hb dX4_curve_1 (by decide) (fun c9 => ?_) (fun c9 => ?_)
  · replace h := h.1 c9
    refine lv_iconst (v := (-1)) hx hb dX4_curve_17 (by decide) ?_
    exact fr_iret C hP hS h dX4_curve_18
  · replace h := h.2 c9
    refine lv_iload_n hx hb dX4_curve_4 rfl (lv_at hl 1 rfl) ?_
    refine lv_iconst (v := 2) hx hb dX4_curve_5 (by decide) ?_
    refine lv_icmp_gt (tgt := 17) hx hb dX4_curve_6 (by decide) (fun c9 => ?_) (fun c9 => ?_)
    · replace h := h.1 c9
      refine lv_iconst (v := (-1)) hx hb dX4_curve_17 (by decide) ?_
      exact fr_iret C hP hS h dX4_curve_18
    · replace h := h.2 c9
      refine lv_aload_n hx hb dX4_curve_9 rfl (lv_at hl 0 rfl) ?_
      refine lv_iload_n hx hb dX4_curve_10 rfl (lv_at hl 2 rfl) ?_
      refine fr_ci (fr_runV (n := 1) (rest := []) C (c_X4_isCurvePolynomial l D adr cs hN t a1 _ h) hP hS (by omega) (fG_FC adr cs t) rfl (fgV mw_16_0 mw_16_1 mw_16_2 mw_1_2 mw_16_3) rfl rfl rfl (by decide +kernel) ⟨Nat.le_of_ble_eq_true rfl, Nat.le_of_ble_eq_true rfl⟩ rfl hl.1 rfl (Nat.le_of_ble_eq_true rfl) dX4_curve_11) hS (fun r2 t1 H locs h hP hS => ?_)
      refine lv_if_ne (tgt := 19) hx hb dX4_curve_14 (by decide) (fun c9 => ?_) (fun c9 => ?_)
      · replace h := h.1 c9
        refine lv_iload_n hx hb dX4_curve_19 rfl (lv_at hl 1 rfl) ?_
        refine lv_iconst (v := 2) hx hb dX4_curve_20 (by decide) ?_
        refine lv_icmp_ne (tgt := 41) hx hb dX4_curve_21 (by decide) (fun c9 => ?_) (fun c9 => ?_)
        · replace h := h.1 c9
          exact k_X4_curve_41 hN C a0 a1 a2 t1 _ _ _ h hP hS (lv_sub hl [0, 1, 2, 3] rfl)
        · replace h := h.2 c9
          refine lv_iload_n hx hb dX4_curve_24 rfl (lv_at hl 3 rfl) ?_
          refine lv_if_lt (tgt := 39) hx hb dX4_curve_25 (by decide) (fun c9 => ?_) (fun c9 => ?_)
          · replace h := h.1 c9
            refine lv_iconst (v := (-1)) hx hb dX4_curve_39 (by decide) ?_
            exact fr_iret C hP hS h dX4_curve_40
          · replace h := h.2 c9
            refine lv_iload_n hx hb dX4_curve_28 rfl (lv_at hl 3 rfl) ?_
            refine lv_aload_n hx hb dX4_curve_29 rfl (lv_at hl 0 rfl) ?_
            refine fr_get (j := 0) C hP (by omega) (fG_FC adr cs t1) rfl (fun w h => List.mem_cons_of_mem _ (inl_X4 w h)) (by decide) rfl (List.mem_cons_of_mem _ mw_1_15) rfl dX4_curve_30 ?_
            refine fr_getN (j := 0) C hP (by omega) (fG_PO adr cs t1) rfl (fun w h => List.mem_cons_of_mem _ (inl_X3 w h)) (by decide) rfl (by decide +kernel) rfl dX4_curve_33 ?_
            refine lv_icmp_lt (tgt := 41) hx hb dX4_curve_36 (by decide) (fun c9 => ?_) (fun c9 => ?_)
            · replace h := h.1 c9
              exact k_X4_curve_41 hN C a0 a1 a2 t1 _ _ _ h hP hS (lv_sub hl [0, 1, 2, 3] rfl)
            · replace h := h.2 c9
              refine lv_iconst (v := (-1)) hx hb dX4_curve_39 (by decide) ?_
              exact fr_iret C hP hS h dX4_curve_40
      · replace h := h.2 c9
        refine lv_iconst (v := (-1)) hx hb dX4_curve_17 (by decide) ?_
        exact fr_iret C hP hS h dX4_curve_18

/-! X4.knot -/
abbrev wm_X4_knot : List Cond := Cond.code yX4_knot cX4_knot 1 (some .int) :: wsL_law
def q_X4_knot (t : fcS) (post : Int32 → fcS → Prop) : Prop := post ((fgi t 0 8)) t
set_option maxHeartbeats 4000000 in
set_option maxRecDepth 100000 in
theorem c_X4_knot (l : Launch) (D : va_G) (adr : Nat → Nat) (cs : Nat → ClassId) {N : Nat} (hN : 53 ≤ N) (t : fcS)  (post : Int32 → fcS → Prop) (h : q_X4_knot t  post) : Met l yX4_knot wm_X4_knot ({ frames := 0, cells := 0, slots := 0, locals := 0 } : Room) (fcPre D adr cs N t [.ref (adr 0)]) (fQi D adr cs N post) 0 0 (faN adr N) := by
  refine f_enter (cc := cX4_knot) (nL := 1) (ret := some .int) (lv := [(0, .ref (adr 0))]) (own := RX4) (by decide) rfl (Nat.le_of_ble_eq_true rfl) rfl rfl ?_
  intro p e s m below meth c ls C hP hS hl
  have hx := C.1.1
  have hb := C.1.2.1
  unfold q_X4_knot at h
  refine lv_aload_n hx hb dX4_knot_0 rfl (lv_at hl 0 rfl) ?_
  refine fr_get (j := 8) C hP (by omega) (fG_FC adr cs t) rfl (fun w h => List.mem_cons_of_mem _ (inl_X4 w h)) (by decide) rfl (List.mem_cons_of_mem _ mw_2_0) rfl dX4_knot_1 ?_
  exact fr_iret C hP hS h dX4_knot_4

/-! X4.curveAt -/
abbrev wm_X4_curveAt : List Cond := Cond.code yX4_curveAt cX4_curveAt 2 (some (.object "FieldCounts$Curve")) :: wsL_law
def q_X4_curveAt (t : fcS) (a0 : Int32) (post : Option Nat → fcS → Prop) : Prop := (a0 < 0 → (post none t)) ∧ (¬ a0 < 0 → (((fgi t 0 6) ≤ a0 → (post none t)) ∧ (¬ (fgi t 0 6) ≤ a0 → ((a0 < 8 → ((vp_in a0 8) ∧ (∀ i1 : Nat, i1 = 21 + 4 * Int32.toNatClampNeg a0 → (post (some i1) t)))) ∧ (¬ a0 < 8 → (post none t))))))
set_option maxHeartbeats 4000000 in
set_option maxRecDepth 100000 in
theorem c_X4_curveAt (l : Launch) (D : va_G) (adr : Nat → Nat) (cs : Nat → ClassId) {N : Nat} (hN : 53 ≤ N) (t : fcS) (a0 : Int32) (post : Option Nat → fcS → Prop) (h : q_X4_curveAt t a0 post) : Met l yX4_curveAt wm_X4_curveAt ({ frames := 0, cells := 0, slots := 0, locals := 0 } : Room) (fcPre D adr cs N t [.ref (adr 0), .int a0]) (fQq D adr cs N post) 0 0 (faN adr N) := by
  refine f_enter (cc := cX4_curveAt) (nL := 2) (ret := some (.object "FieldCounts$Curve")) (lv := [(0, .ref (adr 0)), (1, .int a0)]) (own := RX4) (by decide) rfl (Nat.le_of_ble_eq_true rfl) rfl rfl ?_
  intro p e s m below meth c ls C hP hS hl
  have hx := C.1.1
  have hb := C.1.2.1
  unfold q_X4_curveAt at h
  refine lv_iload_n hx hb dX4_curveAt_0 rfl (lv_at hl 1 rfl) ?_
  refine lv_if_lt (tgt := 21) hx hb dX4_curveAt_1 (by decide) (fun c9 => ?_) (fun c9 => ?_)
  · replace h := h.1 c9
    refine lv_null hx hb dX4_curveAt_21 ?_
    refine lv_goto (tgt := 31) hx hb dX4_curveAt_22 (by decide) ?_
    exact fr_aret C none (Or.inl ⟨_, rfl⟩) rfl hP hS h dX4_curveAt_31
  · replace h := h.2 c9
    refine lv_iload_n hx hb dX4_curveAt_4 rfl (lv_at hl 1 rfl) ?_
    refine lv_aload_n hx hb dX4_curveAt_5 rfl (lv_at hl 0 rfl) ?_
    refine fr_get (j := 6) C hP (by omega) (fG_FC adr cs t) rfl (fun w h => List.mem_cons_of_mem _ (inl_X4 w h)) (by decide) rfl (List.mem_cons_of_mem _ mw_3_18) rfl dX4_curveAt_6 ?_
    refine lv_icmp_ge (tgt := 21) hx hb dX4_curveAt_9 (by decide) (fun c9 => ?_) (fun c9 => ?_)
    · replace h := h.1 c9
      refine lv_null hx hb dX4_curveAt_21 ?_
      refine lv_goto (tgt := 31) hx hb dX4_curveAt_22 (by decide) ?_
      exact fr_aret C none (Or.inl ⟨_, rfl⟩) rfl hP hS h dX4_curveAt_31
    · replace h := h.2 c9
      refine lv_iload_n hx hb dX4_curveAt_12 rfl (lv_at hl 1 rfl) ?_
      refine lv_aload_n hx hb dX4_curveAt_13 rfl (lv_at hl 0 rfl) ?_
      refine fr_get (j := 2) C hP (by omega) (fG_FC adr cs t) rfl (fun w h => List.mem_cons_of_mem _ (inl_X4 w h)) (by decide) rfl (List.mem_cons_of_mem _ mw_1_19) rfl dX4_curveAt_14 ?_
      refine fr_alen (q := 2) (v := 8) C hP (by omega) (fG_3 adr cs t) rfl rfl dX4_curveAt_17 ?_
      refine lv_icmp_lt (tgt := 25) hx hb dX4_curveAt_18 (by decide) (fun c9 => ?_) (fun c9 => ?_)
      · replace h := h.1 c9
        refine lv_aload_n hx hb dX4_curveAt_25 rfl (lv_at hl 0 rfl) ?_
        refine fr_get (j := 2) C hP (by omega) (fG_FC adr cs t) rfl (fun w h => List.mem_cons_of_mem _ (inl_X4 w h)) (by decide) rfl (List.mem_cons_of_mem _ mw_1_19) rfl dX4_curveAt_26 ?_
        refine lv_iload_n hx hb dX4_curveAt_29 rfl (lv_at hl 1 rfl) ?_
        refine fr_aaldC C hP (by omega) h.1 dX4_curveAt_30 (fun i1 ei1 hi1 => ?_)
        replace h := h.2 i1 ei1
        exact fr_aret C (some i1) (Or.inl ⟨_, rfl⟩) rfl hP hS h dX4_curveAt_31
      · replace h := h.2 c9
        refine lv_null hx hb dX4_curveAt_21 ?_
        refine lv_goto (tgt := 31) hx hb dX4_curveAt_22 (by decide) ?_
        exact fr_aret C none (Or.inl ⟨_, rfl⟩) rfl hP hS h dX4_curveAt_31

/-! X4.about -/
abbrev wm_X4_about : List Cond := Cond.code yX4_about cX4_about 4 (some .int) :: wsL_law
def q_X4_about (t : fcS) (a0 : Int32) (a1 : Int32) (post : Int32 → fcS → Prop) : Prop := q_X4_curveAt t a0 (fun (r : Option Nat) (t1 : fcS) => (r = none → (post ((-1)) t1)) ∧ (∀ i2 : Nat, r = some i2 → (fisC i2 ∧ ((a1 = 0 → (post ((fgi t1 i2 4)) t1)) ∧ (¬ a1 = 0 → ((a1 = 1 → (post ((fgi t1 i2 5)) t1)) ∧ (¬ a1 = 1 → ((a1 = 2 → (post ((fgi t1 i2 6)) t1)) ∧ (¬ a1 = 2 → ((a1 = 3 → (post ((fgi t1 i2 7)) t1)) ∧ (¬ a1 = 3 → ((a1 = 4 → (post ((fgi t1 i2 8)) t1)) ∧ (¬ a1 = 4 → ((a1 = 5 → (post ((fgi t1 i2 9)) t1)) ∧ (¬ a1 = 5 → (post ((-1)) t1))))))))))))))))
set_option maxHeartbeats 4000000 in
set_option maxRecDepth 100000 in
theorem c_X4_about (l : Launch) (D : va_G) (adr : Nat → Nat) (cs : Nat → ClassId) {N : Nat} (hN : 53 ≤ N) (t : fcS) (a0 : Int32) (a1 : Int32) (post : Int32 → fcS → Prop) (h : q_X4_about t a0 a1 post) : Met l yX4_about wm_X4_about ({ frames := 1, cells := 0, slots := 0, locals := 21 } : Room) (fcPre D adr cs N t [.ref (adr 0), .int a0, .int a1]) (fQi D adr cs N post) 0 0 (faN adr N) := by
  refine f_enter (cc := cX4_about) (nL := 4) (ret := some .int) (lv := [(0, .ref (adr 0)), (1, .int a0), (2, .int a1)]) (own := RX4) (by decide) rfl (Nat.le_of_ble_eq_true rfl) rfl rfl ?_
  intro p e s m below meth c ls C hP hS hl
  have hx := C.1.1
  have hb := C.1.2.1
  unfold q_X4_about at h
  refine lv_aload_n hx hb dX4_about_0 rfl (lv_at hl 0 rfl) ?_
  refine lv_iload_n hx hb dX4_about_1 rfl (lv_at hl 1 rfl) ?_
  refine fr_cq (fr_runV (n := 1) (rest := []) C (c_X4_curveAt l D adr cs hN t a0 _ h) hP hS (by omega) (fG_FC adr cs t) rfl (fgV mw_19_14 mw_19_15 mw_19_16 mw_1_2 mw_19_17) rfl rfl rfl (by decide +kernel) ⟨Nat.le_of_ble_eq_true rfl, Nat.le_of_ble_eq_true rfl⟩ rfl hl.1 rfl (Nat.le_of_ble_eq_true rfl) dX4_about_2) hS (fun t1 H locs h hP hS => ?_) (fun i2 t1 H locs h hP hS => ?_)
  · replace h := h.1 rfl
    refine lv_astore_nN (lv' := [(3, .null), (0, .ref (adr 0)), (1, .int a0), (2, .int a1)]) hx hb dX4_about_5 rfl hl (by decide) rfl (fun ls hl => ?_)
    refine lv_aload_nN hx hb dX4_about_6 rfl (lv_at hl 0 rfl) ?_
    refine lv_ifnonnullN hx hb dX4_about_7 ?_
    refine lv_iconst (v := (-1)) hx hb dX4_about_10 (by decide) ?_
    exact fr_iret C hP hS h dX4_about_11
  · obtain ⟨hi2, h⟩ := h.2 i2 rfl
    refine lv_astore_n (lv' := [(3, .ref (adr i2)), (0, .ref (adr 0)), (1, .int a0), (2, .int a1)]) hx hb dX4_about_5 rfl hl (by decide) rfl (fun ls hl => ?_)
    refine lv_aload_n hx hb dX4_about_6 rfl (lv_at hl 0 rfl) ?_
    refine lv_ifnonnull (tgt := 12) hx hb dX4_about_7 (by decide) ?_
    refine lv_iload_n hx hb dX4_about_12 rfl (lv_at hl 3 rfl) ?_
    by_cases c0 : a1 = 0
    · replace h := h.1 c0
      refine lv_tableIn (off := 39) (tgt := 52) hx hb dX4_about_13 (by rw [c0]; decide) (by rw [c0]; decide) (by rw [c0]; rfl) (by decide) ?_
      refine lv_aload_n hx hb dX4_about_52 rfl (lv_at hl 0 rfl) ?_
      refine fr_getN (j := 4) C hP (by have := hi2.2.1; omega) (fG_CU adr cs t1 hi2) rfl (fun w h => List.mem_cons_of_mem _ (inl_X1 w h)) (by decide) rfl (by decide +kernel) rfl dX4_about_53 ?_
      exact fr_iret C hP hS h dX4_about_56
    replace h := h.2 c0
    by_cases c1 : a1 = 1
    · replace h := h.1 c1
      refine lv_tableIn (off := 44) (tgt := 57) hx hb dX4_about_13 (by rw [c1]; decide) (by rw [c1]; decide) (by rw [c1]; rfl) (by decide) ?_
      refine lv_aload_n hx hb dX4_about_57 rfl (lv_at hl 0 rfl) ?_
      refine fr_getN (j := 5) C hP (by have := hi2.2.1; omega) (fG_CU adr cs t1 hi2) rfl (fun w h => List.mem_cons_of_mem _ (inl_X1 w h)) (by decide) rfl (by decide +kernel) rfl dX4_about_58 ?_
      exact fr_iret C hP hS h dX4_about_61
    replace h := h.2 c1
    by_cases c2 : a1 = 2
    · replace h := h.1 c2
      refine lv_tableIn (off := 49) (tgt := 62) hx hb dX4_about_13 (by rw [c2]; decide) (by rw [c2]; decide) (by rw [c2]; rfl) (by decide) ?_
      refine lv_aload_n hx hb dX4_about_62 rfl (lv_at hl 0 rfl) ?_
      refine fr_getN (j := 6) C hP (by have := hi2.2.1; omega) (fG_CU adr cs t1 hi2) rfl (fun w h => List.mem_cons_of_mem _ (inl_X1 w h)) (by decide) rfl (by decide +kernel) rfl dX4_about_63 ?_
      exact fr_iret C hP hS h dX4_about_66
    replace h := h.2 c2
    by_cases c3 : a1 = 3
    · replace h := h.1 c3
      refine lv_tableIn (off := 54) (tgt := 67) hx hb dX4_about_13 (by rw [c3]; decide) (by rw [c3]; decide) (by rw [c3]; rfl) (by decide) ?_
      refine lv_aload_n hx hb dX4_about_67 rfl (lv_at hl 0 rfl) ?_
      refine fr_getN (j := 7) C hP (by have := hi2.2.1; omega) (fG_CU adr cs t1 hi2) rfl (fun w h => List.mem_cons_of_mem _ (inl_X1 w h)) (by decide) rfl (by decide +kernel) rfl dX4_about_68 ?_
      exact fr_iret C hP hS h dX4_about_71
    replace h := h.2 c3
    by_cases c4 : a1 = 4
    · replace h := h.1 c4
      refine lv_tableIn (off := 59) (tgt := 72) hx hb dX4_about_13 (by rw [c4]; decide) (by rw [c4]; decide) (by rw [c4]; rfl) (by decide) ?_
      refine lv_aload_n hx hb dX4_about_72 rfl (lv_at hl 0 rfl) ?_
      refine fr_getN (j := 8) C hP (by have := hi2.2.1; omega) (fG_CU adr cs t1 hi2) rfl (fun w h => List.mem_cons_of_mem _ (inl_X1 w h)) (by decide) rfl (by decide +kernel) rfl dX4_about_73 ?_
      exact fr_iret C hP hS h dX4_about_76
    replace h := h.2 c4
    by_cases c5 : a1 = 5
    · replace h := h.1 c5
      refine lv_tableIn (off := 64) (tgt := 77) hx hb dX4_about_13 (by rw [c5]; decide) (by rw [c5]; decide) (by rw [c5]; rfl) (by decide) ?_
      refine lv_aload_n hx hb dX4_about_77 rfl (lv_at hl 0 rfl) ?_
      refine fr_getN (j := 9) C hP (by have := hi2.2.1; omega) (fG_CU adr cs t1 hi2) rfl (fun w h => List.mem_cons_of_mem _ (inl_X1 w h)) (by decide) rfl (by decide +kernel) rfl dX4_about_78 ?_
      exact fr_iret C hP hS h dX4_about_81
    replace h := h.2 c5
    refine lv_tableOut (tgt := 82) hx hb dX4_about_13 (by have q0 := lv_neT (a := 0) c0 (by decide); have q1 := lv_neT (a := 1) c1 (by decide); have q2 := lv_neT (a := 2) c2 (by decide); have q3 := lv_neT (a := 3) c3 (by decide); have q4 := lv_neT (a := 4) c4 (by decide); have q5 := lv_neT (a := 5) c5 (by decide); omega) (by decide) ?_
    refine lv_iconst (v := (-1)) hx hb dX4_about_82 (by decide) ?_
    exact fr_iret C hP hS h dX4_about_83

/-! X4.value -/
abbrev wm_X4_value : List Cond := Cond.code yX4_value cX4_value 6 (some .int) :: wsL_law
def q_X4_value (t : fcS) (a0 : Int32) (a1 : Int32) (a2 : Int32) (post : Int32 → fcS → Prop) : Prop := q_X4_curveAt t a0 (fun (r : Option Nat) (t1 : fcS) => (r = none → (q_X4_fieldAt t1 a1 (fun (r : Option Nat) (t3 : fcS) => (r = none → (post ((-1)) t3)) ∧ (∀ i4 : Nat, r = some i4 → (fisF i4 ∧ (post ((-1)) t3)))))) ∧ (∀ i2 : Nat, r = some i2 → (fisC i2 ∧ (q_X4_fieldAt t1 a1 (fun (r : Option Nat) (t5 : fcS) => (r = none → (post ((-1)) t5)) ∧ (∀ i6 : Nat, r = some i6 → (fisF i6 ∧ (q_X2_has t5 i6 a2 (fun (r8 : Int32) (t7 : fcS) => (¬ r8 = 0 → (q_X4_atS t7 ((fgi t7 i2 4)) (fun (r10 : Int32) (t9 : fcS) => ∀ t11 : fcS, t11 = fsj t9 0 9 (((fgj t7 0 9) + (Int32.toInt64 r10))) → (q_X2_valueOf t11 i6 ((fgi t11 i2 9)) a2 (fun (r13 : Int32) (t12 : fcS) => post r13 t12))))) ∧ (r8 = 0 → (post ((-1)) t7)))))))))))
set_option maxHeartbeats 4000000 in
set_option maxRecDepth 100000 in
theorem c_X4_value (l : Launch) (D : va_G) (adr : Nat → Nat) (cs : Nat → ClassId) {N : Nat} (hN : 53 ≤ N) (t : fcS) (a0 : Int32) (a1 : Int32) (a2 : Int32) (post : Int32 → fcS → Prop) (h : q_X4_value t a0 a1 a2 post) : Met l yX4_value wm_X4_value ({ frames := 5, cells := 0, slots := 0, locals := 123 } : Room) (fcPre D adr cs N t [.ref (adr 0), .int a0, .int a1, .int a2]) (fQi D adr cs N post) 0 0 (faN adr N) := by
  refine f_enter (cc := cX4_value) (nL := 6) (ret := some .int) (lv := [(0, .ref (adr 0)), (1, .int a0), (2, .int a1), (3, .int a2)]) (own := RX4) (by decide) rfl (Nat.le_of_ble_eq_true rfl) rfl rfl ?_
  intro p e s m below meth c ls C hP hS hl
  have hx := C.1.1
  have hb := C.1.2.1
  unfold q_X4_value at h
  refine lv_aload_n hx hb dX4_value_0 rfl (lv_at hl 0 rfl) ?_
  refine lv_iload_n hx hb dX4_value_1 rfl (lv_at hl 1 rfl) ?_
  refine fr_cq (fr_runV (n := 1) (rest := []) C (c_X4_curveAt l D adr cs hN t a0 _ h) hP hS (by omega) (fG_FC adr cs t) rfl (fgV mw_19_14 mw_19_15 mw_19_16 mw_1_2 mw_19_17) rfl rfl rfl (by decide +kernel) ⟨Nat.le_of_ble_eq_true rfl, Nat.le_of_ble_eq_true rfl⟩ rfl hl.1 rfl (Nat.le_of_ble_eq_true rfl) dX4_value_2) hS (fun t1 H locs h hP hS => ?_) (fun i2 t1 H locs h hP hS => ?_)
  · replace h := h.1 rfl
    refine lv_astoreN (lv' := [(4, .null), (0, .ref (adr 0)), (1, .int a0), (2, .int a1), (3, .int a2)]) hx hb dX4_value_5 hl (by decide) rfl (fun ls hl => ?_)
    refine lv_aload_n hx hb dX4_value_7 rfl (lv_at hl 1 rfl) ?_
    refine lv_iload_n hx hb dX4_value_8 rfl (lv_at hl 3 rfl) ?_
    refine fr_cq (fr_runV (n := 1) (rest := []) C (c_X4_fieldAt l D adr cs hN t1 a1 _ h) hP hS (by omega) (fG_FC adr cs t1) rfl (fgV mw_4_9 mw_4_10 mw_4_11 mw_1_2 mw_4_12) rfl rfl rfl (by decide +kernel) ⟨Nat.le_of_ble_eq_true rfl, Nat.le_of_ble_eq_true rfl⟩ rfl hl.1 rfl (Nat.le_of_ble_eq_true rfl) dX4_value_9) hS (fun t3 H locs h hP hS => ?_) (fun i4 t3 H locs h hP hS => ?_)
    · replace h := h.1 rfl
      refine lv_astoreN (lv' := [(5, .null), (4, .null), (0, .ref (adr 0)), (1, .int a0), (2, .int a1), (3, .int a2)]) hx hb dX4_value_12 hl (by decide) rfl (fun ls hl => ?_)
      refine lv_aloadN hx hb dX4_value_14 (lv_at hl 1 rfl) ?_
      refine lv_ifnullN (tgt := 33) hx hb dX4_value_16 (by decide) ?_
      refine lv_iconst (v := (-1)) hx hb dX4_value_33 (by decide) ?_
      exact fr_iret C hP hS h dX4_value_34
    · obtain ⟨hi4, h⟩ := h.2 i4 rfl
      refine lv_astore (lv' := [(5, .ref (adr i4)), (4, .null), (0, .ref (adr 0)), (1, .int a0), (2, .int a1), (3, .int a2)]) hx hb dX4_value_12 hl (by decide) rfl (fun ls hl => ?_)
      refine lv_aloadN hx hb dX4_value_14 (lv_at hl 1 rfl) ?_
      refine lv_ifnullN (tgt := 33) hx hb dX4_value_16 (by decide) ?_
      refine lv_iconst (v := (-1)) hx hb dX4_value_33 (by decide) ?_
      exact fr_iret C hP hS h dX4_value_34
  · obtain ⟨hi2, h⟩ := h.2 i2 rfl
    refine lv_astore (lv' := [(4, .ref (adr i2)), (0, .ref (adr 0)), (1, .int a0), (2, .int a1), (3, .int a2)]) hx hb dX4_value_5 hl (by decide) rfl (fun ls hl => ?_)
    refine lv_aload_n hx hb dX4_value_7 rfl (lv_at hl 1 rfl) ?_
    refine lv_iload_n hx hb dX4_value_8 rfl (lv_at hl 3 rfl) ?_
    refine fr_cq (fr_runV (n := 1) (rest := []) C (c_X4_fieldAt l D adr cs hN t1 a1 _ h) hP hS (by omega) (fG_FC adr cs t1) rfl (fgV mw_4_9 mw_4_10 mw_4_11 mw_1_2 mw_4_12) rfl rfl rfl (by decide +kernel) ⟨Nat.le_of_ble_eq_true rfl, Nat.le_of_ble_eq_true rfl⟩ rfl hl.1 rfl (Nat.le_of_ble_eq_true rfl) dX4_value_9) hS (fun t5 H locs h hP hS => ?_) (fun i6 t5 H locs h hP hS => ?_)
    · replace h := h.1 rfl
      refine lv_astoreN (lv' := [(5, .null), (4, .ref (adr i2)), (0, .ref (adr 0)), (1, .int a0), (2, .int a1), (3, .int a2)]) hx hb dX4_value_12 hl (by decide) rfl (fun ls hl => ?_)
      refine lv_aload hx hb dX4_value_14 (lv_at hl 1 rfl) ?_
      refine lv_ifnull hx hb dX4_value_16 ?_
      refine lv_aloadN hx hb dX4_value_19 (lv_at hl 0 rfl) ?_
      refine lv_ifnullN (tgt := 33) hx hb dX4_value_21 (by decide) ?_
      refine lv_iconst (v := (-1)) hx hb dX4_value_33 (by decide) ?_
      exact fr_iret C hP hS h dX4_value_34
    · obtain ⟨hi6, h⟩ := h.2 i6 rfl
      refine lv_astore (lv' := [(5, .ref (adr i6)), (4, .ref (adr i2)), (0, .ref (adr 0)), (1, .int a0), (2, .int a1), (3, .int a2)]) hx hb dX4_value_12 hl (by decide) rfl (fun ls hl => ?_)
      refine lv_aload hx hb dX4_value_14 (lv_at hl 1 rfl) ?_
      refine lv_ifnull hx hb dX4_value_16 ?_
      refine lv_aload hx hb dX4_value_19 (lv_at hl 0 rfl) ?_
      refine lv_ifnull hx hb dX4_value_21 ?_
      refine lv_aload hx hb dX4_value_24 (lv_at hl 0 rfl) ?_
      refine lv_iload_n hx hb dX4_value_26 rfl (lv_at hl 5 rfl) ?_
      refine fr_ci (fr_runV (n := 1) (rest := []) C (c_X2_has l D adr cs hN t5 i6 hi6 a2 _ h) hP hS (by have := hi6.2.1; omega) (fG_FI adr cs t5 hi6) rfl (fgV mw_11_18 mw_11_19 mw_11_20 mw_2_2 mw_11_21) rfl rfl rfl (by decide +kernel) ⟨Nat.le_of_ble_eq_true rfl, Nat.le_of_ble_eq_true rfl⟩ rfl hl.1 rfl (Nat.le_of_ble_eq_true rfl) dX4_value_27) hS (fun r8 t7 H locs h hP hS => ?_)
      refine lv_if_ne (tgt := 35) hx hb dX4_value_30 (by decide) (fun c9 => ?_) (fun c9 => ?_)
      · replace h := h.1 c9
        refine lv_aload_n hx hb dX4_value_35 rfl (lv_at hl 2 rfl) ?_
        refine lv_dup hx hb dX4_value_36 rfl ?_
        refine fr_get (j := 9) C hP (by omega) (fG_FC adr cs t7) rfl (fun w h => List.mem_cons_of_mem _ (inl_X4 w h)) (by decide) rfl (List.mem_cons_of_mem _ mw_20_19) rfl dX4_value_37 ?_
        refine va_gets hx hb C.2.2.2.2.2.2.2.1 hS C.1.2.2.2.1 (C.1.2.2.2.2 _ (List.mem_cons_of_mem _ mw_20_20)) (fun _ h9 => h9) dX4_value_40 ?_
        refine lv_aload hx hb dX4_value_43 (lv_at hl 1 rfl) ?_
        refine fr_getN (j := 4) C hP (by have := hi2.2.1; omega) (fG_CU adr cs t7 hi2) rfl (fun w h => List.mem_cons_of_mem _ (inl_X1 w h)) (by decide) rfl (by decide +kernel) rfl dX4_value_45 ?_
        refine fr_ci (fr_runS (n := 2) (rest := [.long ((fgj t7 0 9)), .ref (adr 0)]) C (c_X4_atS l D adr cs hN t7 ((fgi t7 i2 4)) _ h) hP hS (fgS mw_15_13 mw_6_19 mw_1_2 mw_6_20) rfl rfl rfl (by decide +kernel) ⟨Nat.le_of_ble_eq_true rfl, Nat.le_of_ble_eq_true rfl⟩ rfl hl.1 rfl (Nat.le_of_ble_eq_true rfl) dX4_value_48) hS (fun r10 t9 H locs h hP hS => ?_)
        refine lv_i2l hx hb dX4_value_51 rfl ?_
        refine lv_ladd hx hb dX4_value_52 ?_
        refine fr_put C (fsj t9 0 9 (((fgj t7 0 9) + (Int32.toInt64 r10)))) (j := 9) (ty := .long) hP hS (by omega) (fG_FC adr cs t9) rfl (fun w h => List.mem_cons_of_mem _ (inl_X4 w h)) tyX4_ok nmX4 (by decide) rfl (List.mem_cons_of_mem _ mw_20_19) rfl (by decide +kernel) rfl rfl (Nat.le_of_ble_eq_true rfl) (fS_FC_9 adr cs t9 (((fgj t7 0 9) + (Int32.toInt64 r10)))) (fG_fsj_ne adr cs t9 0 9 (((fgj t7 0 9) + (Int32.toInt64 r10)))) dX4_value_53 (fun H locs hP hS => ?_)
        obtain ⟨t11, et11⟩ : ∃ y : fcS, y = fsj t9 0 9 (((fgj t7 0 9) + (Int32.toInt64 r10))) := ⟨_, rfl⟩
        rw [← et11] at hP
        replace h := h t11 et11
        refine lv_aload hx hb dX4_value_56 (lv_at hl 0 rfl) ?_
        refine lv_aload hx hb dX4_value_58 (lv_at hl 1 rfl) ?_
        refine fr_getN (j := 9) C hP (by have := hi2.2.1; omega) (fG_CU adr cs t11 hi2) rfl (fun w h => List.mem_cons_of_mem _ (inl_X1 w h)) (by decide) rfl (by decide +kernel) rfl dX4_value_60 ?_
        refine lv_iload_n hx hb dX4_value_63 rfl (lv_at hl 5 rfl) ?_
        refine fr_ci (fr_runV (n := 2) (rest := []) C (c_X2_valueOf l D adr cs hN t11 i6 hi6 ((fgi t11 i2 9)) a2 _ h) hP hS (by have := hi6.2.1; omega) (fG_FI adr cs t11 hi6) rfl (fgV mw_20_21 mw_20_22 mw_20_23 mw_2_2 mw_21_0) rfl rfl rfl (by decide +kernel) ⟨Nat.le_of_ble_eq_true rfl, Nat.le_of_ble_eq_true rfl⟩ rfl hl.1 rfl (Nat.le_of_ble_eq_true rfl) dX4_value_64) hS (fun r13 t12 H locs h hP hS => ?_)
        exact fr_iret C hP hS h dX4_value_67
      · replace h := h.2 c9
        refine lv_iconst (v := (-1)) hx hb dX4_value_33 (by decide) ?_
        exact fr_iret C hP hS h dX4_value_34

/-! X4.count -/
abbrev wm_X4_count : List Cond := Cond.code yX4_count cX4_count 5 (some .int) :: wsL_law
def q_X4_count (t : fcS) (a0 : Int32) (a1 : Int32) (post : Int32 → fcS → Prop) : Prop := q_X4_curveAt t a0 (fun (r : Option Nat) (t1 : fcS) => (r = none → (q_X4_fieldAt t1 a1 (fun (r : Option Nat) (t3 : fcS) => (r = none → (post ((-1)) t3)) ∧ (∀ i4 : Nat, r = some i4 → (fisF i4 ∧ (post ((-1)) t3)))))) ∧ (∀ i2 : Nat, r = some i2 → (fisC i2 ∧ (q_X4_fieldAt t1 a1 (fun (r : Option Nat) (t5 : fcS) => (r = none → (post ((-1)) t5)) ∧ (∀ i6 : Nat, r = some i6 → (fisF i6 ∧ (q_X2_pointsOf t5 i6 ((fgi t5 i2 9)) (fun (r8 : Int32) (t7 : fcS) => post r8 t7)))))))))
set_option maxHeartbeats 4000000 in
set_option maxRecDepth 100000 in
theorem c_X4_count (l : Launch) (D : va_G) (adr : Nat → Nat) (cs : Nat → ClassId) {N : Nat} (hN : 53 ≤ N) (t : fcS) (a0 : Int32) (a1 : Int32) (post : Int32 → fcS → Prop) (h : q_X4_count t a0 a1 post) : Met l yX4_count wm_X4_count ({ frames := 5, cells := 0, slots := 0, locals := 123 } : Room) (fcPre D adr cs N t [.ref (adr 0), .int a0, .int a1]) (fQi D adr cs N post) 0 0 (faN adr N) := by
  refine f_enter (cc := cX4_count) (nL := 5) (ret := some .int) (lv := [(0, .ref (adr 0)), (1, .int a0), (2, .int a1)]) (own := RX4) (by decide) rfl (Nat.le_of_ble_eq_true rfl) rfl rfl ?_
  intro p e s m below meth c ls C hP hS hl
  have hx := C.1.1
  have hb := C.1.2.1
  unfold q_X4_count at h
  refine lv_aload_n hx hb dX4_count_0 rfl (lv_at hl 0 rfl) ?_
  refine lv_iload_n hx hb dX4_count_1 rfl (lv_at hl 1 rfl) ?_
  refine fr_cq (fr_runV (n := 1) (rest := []) C (c_X4_curveAt l D adr cs hN t a0 _ h) hP hS (by omega) (fG_FC adr cs t) rfl (fgV mw_19_14 mw_19_15 mw_19_16 mw_1_2 mw_19_17) rfl rfl rfl (by decide +kernel) ⟨Nat.le_of_ble_eq_true rfl, Nat.le_of_ble_eq_true rfl⟩ rfl hl.1 rfl (Nat.le_of_ble_eq_true rfl) dX4_count_2) hS (fun t1 H locs h hP hS => ?_) (fun i2 t1 H locs h hP hS => ?_)
  · replace h := h.1 rfl
    refine lv_astore_nN (lv' := [(3, .null), (0, .ref (adr 0)), (1, .int a0), (2, .int a1)]) hx hb dX4_count_5 rfl hl (by decide) rfl (fun ls hl => ?_)
    refine lv_aload_n hx hb dX4_count_6 rfl (lv_at hl 1 rfl) ?_
    refine lv_iload_n hx hb dX4_count_7 rfl (lv_at hl 3 rfl) ?_
    refine fr_cq (fr_runV (n := 1) (rest := []) C (c_X4_fieldAt l D adr cs hN t1 a1 _ h) hP hS (by omega) (fG_FC adr cs t1) rfl (fgV mw_4_9 mw_4_10 mw_4_11 mw_1_2 mw_4_12) rfl rfl rfl (by decide +kernel) ⟨Nat.le_of_ble_eq_true rfl, Nat.le_of_ble_eq_true rfl⟩ rfl hl.1 rfl (Nat.le_of_ble_eq_true rfl) dX4_count_8) hS (fun t3 H locs h hP hS => ?_) (fun i4 t3 H locs h hP hS => ?_)
    · replace h := h.1 rfl
      refine lv_astoreN (lv' := [(4, .null), (3, .null), (0, .ref (adr 0)), (1, .int a0), (2, .int a1)]) hx hb dX4_count_11 hl (by decide) rfl (fun ls hl => ?_)
      refine lv_aload_nN hx hb dX4_count_13 rfl (lv_at hl 1 rfl) ?_
      refine lv_ifnullN (tgt := 22) hx hb dX4_count_14 (by decide) ?_
      refine lv_iconst (v := (-1)) hx hb dX4_count_22 (by decide) ?_
      exact fr_iret C hP hS h dX4_count_23
    · obtain ⟨hi4, h⟩ := h.2 i4 rfl
      refine lv_astore (lv' := [(4, .ref (adr i4)), (3, .null), (0, .ref (adr 0)), (1, .int a0), (2, .int a1)]) hx hb dX4_count_11 hl (by decide) rfl (fun ls hl => ?_)
      refine lv_aload_nN hx hb dX4_count_13 rfl (lv_at hl 1 rfl) ?_
      refine lv_ifnullN (tgt := 22) hx hb dX4_count_14 (by decide) ?_
      refine lv_iconst (v := (-1)) hx hb dX4_count_22 (by decide) ?_
      exact fr_iret C hP hS h dX4_count_23
  · obtain ⟨hi2, h⟩ := h.2 i2 rfl
    refine lv_astore_n (lv' := [(3, .ref (adr i2)), (0, .ref (adr 0)), (1, .int a0), (2, .int a1)]) hx hb dX4_count_5 rfl hl (by decide) rfl (fun ls hl => ?_)
    refine lv_aload_n hx hb dX4_count_6 rfl (lv_at hl 1 rfl) ?_
    refine lv_iload_n hx hb dX4_count_7 rfl (lv_at hl 3 rfl) ?_
    refine fr_cq (fr_runV (n := 1) (rest := []) C (c_X4_fieldAt l D adr cs hN t1 a1 _ h) hP hS (by omega) (fG_FC adr cs t1) rfl (fgV mw_4_9 mw_4_10 mw_4_11 mw_1_2 mw_4_12) rfl rfl rfl (by decide +kernel) ⟨Nat.le_of_ble_eq_true rfl, Nat.le_of_ble_eq_true rfl⟩ rfl hl.1 rfl (Nat.le_of_ble_eq_true rfl) dX4_count_8) hS (fun t5 H locs h hP hS => ?_) (fun i6 t5 H locs h hP hS => ?_)
    · replace h := h.1 rfl
      refine lv_astoreN (lv' := [(4, .null), (3, .ref (adr i2)), (0, .ref (adr 0)), (1, .int a0), (2, .int a1)]) hx hb dX4_count_11 hl (by decide) rfl (fun ls hl => ?_)
      refine lv_aload_n hx hb dX4_count_13 rfl (lv_at hl 1 rfl) ?_
      refine lv_ifnull hx hb dX4_count_14 ?_
      refine lv_aloadN hx hb dX4_count_17 (lv_at hl 0 rfl) ?_
      refine lv_ifnonnullN hx hb dX4_count_19 ?_
      refine lv_iconst (v := (-1)) hx hb dX4_count_22 (by decide) ?_
      exact fr_iret C hP hS h dX4_count_23
    · obtain ⟨hi6, h⟩ := h.2 i6 rfl
      refine lv_astore (lv' := [(4, .ref (adr i6)), (3, .ref (adr i2)), (0, .ref (adr 0)), (1, .int a0), (2, .int a1)]) hx hb dX4_count_11 hl (by decide) rfl (fun ls hl => ?_)
      refine lv_aload_n hx hb dX4_count_13 rfl (lv_at hl 1 rfl) ?_
      refine lv_ifnull hx hb dX4_count_14 ?_
      refine lv_aload hx hb dX4_count_17 (lv_at hl 0 rfl) ?_
      refine lv_ifnonnull (tgt := 24) hx hb dX4_count_19 (by decide) ?_
      refine lv_aload hx hb dX4_count_24 (lv_at hl 0 rfl) ?_
      refine lv_aload_n hx hb dX4_count_26 rfl (lv_at hl 1 rfl) ?_
      refine fr_getN (j := 9) C hP (by have := hi2.2.1; omega) (fG_CU adr cs t5 hi2) rfl (fun w h => List.mem_cons_of_mem _ (inl_X1 w h)) (by decide) rfl (by decide +kernel) rfl dX4_count_27 ?_
      refine fr_ci (fr_runV (n := 1) (rest := []) C (c_X2_pointsOf l D adr cs hN t5 i6 hi6 ((fgi t5 i2 9)) _ h) hP hS (by have := hi6.2.1; omega) (fG_FI adr cs t5 hi6) rfl (fgV mw_21_20 mw_21_21 mw_21_22 mw_2_2 mw_21_23) rfl rfl rfl (by decide +kernel) ⟨Nat.le_of_ble_eq_true rfl, Nat.le_of_ble_eq_true rfl⟩ rfl hl.1 rfl (Nat.le_of_ble_eq_true rfl) dX4_count_30) hS (fun r8 t7 H locs h hP hS => ?_)
      exact fr_iret C hP hS h dX4_count_33

/-! X4.beyond -/
abbrev wm_X4_beyond : List Cond := Cond.code yX4_beyond cX4_beyond 5 (some .int) :: wsL_law
def q_X4_beyond (t : fcS) (a0 : Int32) (a1 : Int32) (post : Int32 → fcS → Prop) : Prop := q_X4_curveAt t a0 (fun (r : Option Nat) (t1 : fcS) => (r = none → (q_X4_fieldAt t1 a1 (fun (r : Option Nat) (t3 : fcS) => (r = none → (post ((-1)) t3)) ∧ (∀ i4 : Nat, r = some i4 → (fisF i4 ∧ (post ((-1)) t3)))))) ∧ (∀ i2 : Nat, r = some i2 → (fisC i2 ∧ (q_X4_fieldAt t1 a1 (fun (r : Option Nat) (t5 : fcS) => (r = none → (post ((-1)) t5)) ∧ (∀ i6 : Nat, r = some i6 → (fisF i6 ∧ (q_X2_pointsBeyond t5 i6 ((fgi t5 i2 9)) (fun (r8 : Int32) (t7 : fcS) => post r8 t7)))))))))
set_option maxHeartbeats 4000000 in
set_option maxRecDepth 100000 in
theorem c_X4_beyond (l : Launch) (D : va_G) (adr : Nat → Nat) (cs : Nat → ClassId) {N : Nat} (hN : 53 ≤ N) (t : fcS) (a0 : Int32) (a1 : Int32) (post : Int32 → fcS → Prop) (h : q_X4_beyond t a0 a1 post) : Met l yX4_beyond wm_X4_beyond ({ frames := 5, cells := 0, slots := 0, locals := 123 } : Room) (fcPre D adr cs N t [.ref (adr 0), .int a0, .int a1]) (fQi D adr cs N post) 0 0 (faN adr N) := by
  refine f_enter (cc := cX4_beyond) (nL := 5) (ret := some .int) (lv := [(0, .ref (adr 0)), (1, .int a0), (2, .int a1)]) (own := RX4) (by decide) rfl (Nat.le_of_ble_eq_true rfl) rfl rfl ?_
  intro p e s m below meth c ls C hP hS hl
  have hx := C.1.1
  have hb := C.1.2.1
  unfold q_X4_beyond at h
  refine lv_aload_n hx hb dX4_beyond_0 rfl (lv_at hl 0 rfl) ?_
  refine lv_iload_n hx hb dX4_beyond_1 rfl (lv_at hl 1 rfl) ?_
  refine fr_cq (fr_runV (n := 1) (rest := []) C (c_X4_curveAt l D adr cs hN t a0 _ h) hP hS (by omega) (fG_FC adr cs t) rfl (fgV mw_19_14 mw_19_15 mw_19_16 mw_1_2 mw_19_17) rfl rfl rfl (by decide +kernel) ⟨Nat.le_of_ble_eq_true rfl, Nat.le_of_ble_eq_true rfl⟩ rfl hl.1 rfl (Nat.le_of_ble_eq_true rfl) dX4_beyond_2) hS (fun t1 H locs h hP hS => ?_) (fun i2 t1 H locs h hP hS => ?_)
  · replace h := h.1 rfl
    refine lv_astore_nN (lv' := [(3, .null), (0, .ref (adr 0)), (1, .int a0), (2, .int a1)]) hx hb dX4_beyond_5 rfl hl (by decide) rfl (fun ls hl => ?_)
    refine lv_aload_n hx hb dX4_beyond_6 rfl (lv_at hl 1 rfl) ?_
    refine lv_iload_n hx hb dX4_beyond_7 rfl (lv_at hl 3 rfl) ?_
    refine fr_cq (fr_runV (n := 1) (rest := []) C (c_X4_fieldAt l D adr cs hN t1 a1 _ h) hP hS (by omega) (fG_FC adr cs t1) rfl (fgV mw_4_9 mw_4_10 mw_4_11 mw_1_2 mw_4_12) rfl rfl rfl (by decide +kernel) ⟨Nat.le_of_ble_eq_true rfl, Nat.le_of_ble_eq_true rfl⟩ rfl hl.1 rfl (Nat.le_of_ble_eq_true rfl) dX4_beyond_8) hS (fun t3 H locs h hP hS => ?_) (fun i4 t3 H locs h hP hS => ?_)
    · replace h := h.1 rfl
      refine lv_astoreN (lv' := [(4, .null), (3, .null), (0, .ref (adr 0)), (1, .int a0), (2, .int a1)]) hx hb dX4_beyond_11 hl (by decide) rfl (fun ls hl => ?_)
      refine lv_aload_nN hx hb dX4_beyond_13 rfl (lv_at hl 1 rfl) ?_
      refine lv_ifnullN (tgt := 22) hx hb dX4_beyond_14 (by decide) ?_
      refine lv_iconst (v := (-1)) hx hb dX4_beyond_22 (by decide) ?_
      exact fr_iret C hP hS h dX4_beyond_23
    · obtain ⟨hi4, h⟩ := h.2 i4 rfl
      refine lv_astore (lv' := [(4, .ref (adr i4)), (3, .null), (0, .ref (adr 0)), (1, .int a0), (2, .int a1)]) hx hb dX4_beyond_11 hl (by decide) rfl (fun ls hl => ?_)
      refine lv_aload_nN hx hb dX4_beyond_13 rfl (lv_at hl 1 rfl) ?_
      refine lv_ifnullN (tgt := 22) hx hb dX4_beyond_14 (by decide) ?_
      refine lv_iconst (v := (-1)) hx hb dX4_beyond_22 (by decide) ?_
      exact fr_iret C hP hS h dX4_beyond_23
  · obtain ⟨hi2, h⟩ := h.2 i2 rfl
    refine lv_astore_n (lv' := [(3, .ref (adr i2)), (0, .ref (adr 0)), (1, .int a0), (2, .int a1)]) hx hb dX4_beyond_5 rfl hl (by decide) rfl (fun ls hl => ?_)
    refine lv_aload_n hx hb dX4_beyond_6 rfl (lv_at hl 1 rfl) ?_
    refine lv_iload_n hx hb dX4_beyond_7 rfl (lv_at hl 3 rfl) ?_
    refine fr_cq (fr_runV (n := 1) (rest := []) C (c_X4_fieldAt l D adr cs hN t1 a1 _ h) hP hS (by omega) (fG_FC adr cs t1) rfl (fgV mw_4_9 mw_4_10 mw_4_11 mw_1_2 mw_4_12) rfl rfl rfl (by decide +kernel) ⟨Nat.le_of_ble_eq_true rfl, Nat.le_of_ble_eq_true rfl⟩ rfl hl.1 rfl (Nat.le_of_ble_eq_true rfl) dX4_beyond_8) hS (fun t5 H locs h hP hS => ?_) (fun i6 t5 H locs h hP hS => ?_)
    · replace h := h.1 rfl
      refine lv_astoreN (lv' := [(4, .null), (3, .ref (adr i2)), (0, .ref (adr 0)), (1, .int a0), (2, .int a1)]) hx hb dX4_beyond_11 hl (by decide) rfl (fun ls hl => ?_)
      refine lv_aload_n hx hb dX4_beyond_13 rfl (lv_at hl 1 rfl) ?_
      refine lv_ifnull hx hb dX4_beyond_14 ?_
      refine lv_aloadN hx hb dX4_beyond_17 (lv_at hl 0 rfl) ?_
      refine lv_ifnonnullN hx hb dX4_beyond_19 ?_
      refine lv_iconst (v := (-1)) hx hb dX4_beyond_22 (by decide) ?_
      exact fr_iret C hP hS h dX4_beyond_23
    · obtain ⟨hi6, h⟩ := h.2 i6 rfl
      refine lv_astore (lv' := [(4, .ref (adr i6)), (3, .ref (adr i2)), (0, .ref (adr 0)), (1, .int a0), (2, .int a1)]) hx hb dX4_beyond_11 hl (by decide) rfl (fun ls hl => ?_)
      refine lv_aload_n hx hb dX4_beyond_13 rfl (lv_at hl 1 rfl) ?_
      refine lv_ifnull hx hb dX4_beyond_14 ?_
      refine lv_aload hx hb dX4_beyond_17 (lv_at hl 0 rfl) ?_
      refine lv_ifnonnull (tgt := 24) hx hb dX4_beyond_19 (by decide) ?_
      refine lv_aload hx hb dX4_beyond_24 (lv_at hl 0 rfl) ?_
      refine lv_aload_n hx hb dX4_beyond_26 rfl (lv_at hl 1 rfl) ?_
      refine fr_getN (j := 9) C hP (by have := hi2.2.1; omega) (fG_CU adr cs t5 hi2) rfl (fun w h => List.mem_cons_of_mem _ (inl_X1 w h)) (by decide) rfl (by decide +kernel) rfl dX4_beyond_27 ?_
      refine fr_ci (fr_runV (n := 1) (rest := []) C (c_X2_pointsBeyond l D adr cs hN t5 i6 hi6 ((fgi t5 i2 9)) _ h) hP hS (by have := hi6.2.1; omega) (fG_FI adr cs t5 hi6) rfl (fgV mw_23_3 mw_22_7 mw_22_8 mw_2_2 mw_22_9) rfl rfl rfl (by decide +kernel) ⟨Nat.le_of_ble_eq_true rfl, Nat.le_of_ble_eq_true rfl⟩ rfl hl.1 rfl (Nat.le_of_ble_eq_true rfl) dX4_beyond_30) hS (fun r8 t7 H locs h hP hS => ?_)
      exact fr_iret C hP hS h dX4_beyond_33

/-! X4.shareOf -/
abbrev wm_X4_shareOf : List Cond := Cond.code yX4_shareOf cX4_shareOf 4 (some (.array .int)) :: wsL_law
def q_X4_shareOf (t : fcS) (k0a : Nat) (post : Option Nat → fcS → Prop) : Prop := q_X4_fieldAt t 1 (fun (r : Option Nat) (t1 : fcS) => (r = none → (q_X4_fieldAt t1 2 (fun (r : Option Nat) (t3 : fcS) => (r = none → ((¬ (fgi t3 k0a 3) = 0 → (post (some ((k0a + 1))) t3)) ∧ ((fgi t3 k0a 3) = 0 → (post (some ((k0a + 1))) t3)))) ∧ (∀ i4 : Nat, r = some i4 → (fisF i4 ∧ ((¬ (fgi t3 k0a 3) = 0 → (post (some ((k0a + 1))) t3)) ∧ ((fgi t3 k0a 3) = 0 → (post (some ((k0a + 1))) t3)))))))) ∧ (∀ i2 : Nat, r = some i2 → (fisF i2 ∧ (q_X4_fieldAt t1 2 (fun (r : Option Nat) (t5 : fcS) => (r = none → ((¬ (fgi t5 k0a 3) = 0 → (post (some ((k0a + 1))) t5)) ∧ ((fgi t5 k0a 3) = 0 → (post (some ((k0a + 1))) t5)))) ∧ (∀ i6 : Nat, r = some i6 → (fisF i6 ∧ ((¬ (fgi t5 k0a 3) = 0 → (post (some ((k0a + 1))) t5)) ∧ ((fgi t5 k0a 3) = 0 → (q_X1_makeShare t5 k0a i2 i6 (fun (t7 : fcS) => post (some ((k0a + 1))) t7)))))))))))
set_option maxHeartbeats 4000000 in
set_option maxRecDepth 100000 in
theorem c_X4_shareOf (l : Launch) (D : va_G) (adr : Nat → Nat) (cs : Nat → ClassId) {N : Nat} (hN : 53 ≤ N) (t : fcS) (k0a : Nat) (hk0a : fisC k0a) (post : Option Nat → fcS → Prop) (h : q_X4_shareOf t k0a post) : Met l yX4_shareOf wm_X4_shareOf ({ frames := 6, cells := 0, slots := 0, locals := 136 } : Room) (fcPre D adr cs N t [.ref (adr 0), .ref (adr k0a)]) (fQq D adr cs N post) 0 0 (faN adr N) := by
  refine f_enter (cc := cX4_shareOf) (nL := 4) (ret := some (.array .int)) (lv := [(0, .ref (adr 0)), (1, .ref (adr k0a))]) (own := RX4) (by decide) rfl (Nat.le_of_ble_eq_true rfl) rfl rfl ?_
  intro p e s m below meth c ls C hP hS hl
  have hx := C.1.1
  have hb := C.1.2.1
  unfold q_X4_shareOf at h
  refine lv_aload_n hx hb dX4_shareOf_0 rfl (lv_at hl 0 rfl) ?_
  refine lv_iconst (v := 1) hx hb dX4_shareOf_1 (by decide) ?_
  refine fr_cq (fr_runV (n := 1) (rest := []) C (c_X4_fieldAt l D adr cs hN t 1 _ h) hP hS (by omega) (fG_FC adr cs t) rfl (fgV mw_4_9 mw_4_10 mw_4_11 mw_1_2 mw_4_12) rfl rfl rfl (by decide +kernel) ⟨Nat.le_of_ble_eq_true rfl, Nat.le_of_ble_eq_true rfl⟩ rfl hl.1 rfl (Nat.le_of_ble_eq_true rfl) dX4_shareOf_2) hS (fun t1 H locs h hP hS => ?_) (fun i2 t1 H locs h hP hS => ?_)
  · replace h := h.1 rfl
    refine lv_astore_nN (lv' := [(2, .null), (0, .ref (adr 0)), (1, .ref (adr k0a))]) hx hb dX4_shareOf_5 rfl hl (by decide) rfl (fun ls hl => ?_)
    refine lv_aload_n hx hb dX4_shareOf_6 rfl (lv_at hl 1 rfl) ?_
    refine lv_iconst (v := 2) hx hb dX4_shareOf_7 (by decide) ?_
    refine fr_cq (fr_runV (n := 1) (rest := []) C (c_X4_fieldAt l D adr cs hN t1 2 _ h) hP hS (by omega) (fG_FC adr cs t1) rfl (fgV mw_4_9 mw_4_10 mw_4_11 mw_1_2 mw_4_12) rfl rfl rfl (by decide +kernel) ⟨Nat.le_of_ble_eq_true rfl, Nat.le_of_ble_eq_true rfl⟩ rfl hl.1 rfl (Nat.le_of_ble_eq_true rfl) dX4_shareOf_8) hS (fun t3 H locs h hP hS => ?_) (fun i4 t3 H locs h hP hS => ?_)
    · replace h := h.1 rfl
      refine lv_astore_nN (lv' := [(3, .null), (2, .null), (0, .ref (adr 0)), (1, .ref (adr k0a))]) hx hb dX4_shareOf_11 rfl hl (by decide) rfl (fun ls hl => ?_)
      refine lv_aload_n hx hb dX4_shareOf_12 rfl (lv_at hl 3 rfl) ?_
      refine fr_getN (j := 3) C hP (by have := hk0a.2.1; omega) (fG_CU adr cs t3 hk0a) rfl (fun w h => List.mem_cons_of_mem _ (inl_X1 w h)) (by decide) rfl (by decide +kernel) rfl dX4_shareOf_13 ?_
      refine lv_if_ne (tgt := 33) hx hb dX4_shareOf_16 (by decide) (fun c9 => ?_) (fun c9 => ?_)
      · replace h := h.1 c9
        refine lv_aload_n hx hb dX4_shareOf_33 rfl (lv_at hl 3 rfl) ?_
        refine fr_getN (j := 2) C hP (by have := hk0a.2.1; omega) (fG_CU adr cs t3 hk0a) rfl (fun w h => List.mem_cons_of_mem _ (inl_X1 w h)) (by decide) rfl (by decide +kernel) rfl dX4_shareOf_34 ?_
        exact fr_aret C (some ((k0a + 1))) (Or.inr ⟨_, rfl⟩) rfl hP hS h dX4_shareOf_37
      · replace h := h.2 c9
        refine lv_aload_nN hx hb dX4_shareOf_19 rfl (lv_at hl 1 rfl) ?_
        refine lv_ifnullN (tgt := 33) hx hb dX4_shareOf_20 (by decide) ?_
        refine lv_aload_n hx hb dX4_shareOf_33 rfl (lv_at hl 3 rfl) ?_
        refine fr_getN (j := 2) C hP (by have := hk0a.2.1; omega) (fG_CU adr cs t3 hk0a) rfl (fun w h => List.mem_cons_of_mem _ (inl_X1 w h)) (by decide) rfl (by decide +kernel) rfl dX4_shareOf_34 ?_
        exact fr_aret C (some ((k0a + 1))) (Or.inr ⟨_, rfl⟩) rfl hP hS h dX4_shareOf_37
    · obtain ⟨hi4, h⟩ := h.2 i4 rfl
      refine lv_astore_n (lv' := [(3, .ref (adr i4)), (2, .null), (0, .ref (adr 0)), (1, .ref (adr k0a))]) hx hb dX4_shareOf_11 rfl hl (by decide) rfl (fun ls hl => ?_)
      refine lv_aload_n hx hb dX4_shareOf_12 rfl (lv_at hl 3 rfl) ?_
      refine fr_getN (j := 3) C hP (by have := hk0a.2.1; omega) (fG_CU adr cs t3 hk0a) rfl (fun w h => List.mem_cons_of_mem _ (inl_X1 w h)) (by decide) rfl (by decide +kernel) rfl dX4_shareOf_13 ?_
      refine lv_if_ne (tgt := 33) hx hb dX4_shareOf_16 (by decide) (fun c9 => ?_) (fun c9 => ?_)
      · replace h := h.1 c9
        refine lv_aload_n hx hb dX4_shareOf_33 rfl (lv_at hl 3 rfl) ?_
        refine fr_getN (j := 2) C hP (by have := hk0a.2.1; omega) (fG_CU adr cs t3 hk0a) rfl (fun w h => List.mem_cons_of_mem _ (inl_X1 w h)) (by decide) rfl (by decide +kernel) rfl dX4_shareOf_34 ?_
        exact fr_aret C (some ((k0a + 1))) (Or.inr ⟨_, rfl⟩) rfl hP hS h dX4_shareOf_37
      · replace h := h.2 c9
        refine lv_aload_nN hx hb dX4_shareOf_19 rfl (lv_at hl 1 rfl) ?_
        refine lv_ifnullN (tgt := 33) hx hb dX4_shareOf_20 (by decide) ?_
        refine lv_aload_n hx hb dX4_shareOf_33 rfl (lv_at hl 3 rfl) ?_
        refine fr_getN (j := 2) C hP (by have := hk0a.2.1; omega) (fG_CU adr cs t3 hk0a) rfl (fun w h => List.mem_cons_of_mem _ (inl_X1 w h)) (by decide) rfl (by decide +kernel) rfl dX4_shareOf_34 ?_
        exact fr_aret C (some ((k0a + 1))) (Or.inr ⟨_, rfl⟩) rfl hP hS h dX4_shareOf_37
  · obtain ⟨hi2, h⟩ := h.2 i2 rfl
    refine lv_astore_n (lv' := [(2, .ref (adr i2)), (0, .ref (adr 0)), (1, .ref (adr k0a))]) hx hb dX4_shareOf_5 rfl hl (by decide) rfl (fun ls hl => ?_)
    refine lv_aload_n hx hb dX4_shareOf_6 rfl (lv_at hl 1 rfl) ?_
    refine lv_iconst (v := 2) hx hb dX4_shareOf_7 (by decide) ?_
    refine fr_cq (fr_runV (n := 1) (rest := []) C (c_X4_fieldAt l D adr cs hN t1 2 _ h) hP hS (by omega) (fG_FC adr cs t1) rfl (fgV mw_4_9 mw_4_10 mw_4_11 mw_1_2 mw_4_12) rfl rfl rfl (by decide +kernel) ⟨Nat.le_of_ble_eq_true rfl, Nat.le_of_ble_eq_true rfl⟩ rfl hl.1 rfl (Nat.le_of_ble_eq_true rfl) dX4_shareOf_8) hS (fun t5 H locs h hP hS => ?_) (fun i6 t5 H locs h hP hS => ?_)
    · replace h := h.1 rfl
      refine lv_astore_nN (lv' := [(3, .null), (2, .ref (adr i2)), (0, .ref (adr 0)), (1, .ref (adr k0a))]) hx hb dX4_shareOf_11 rfl hl (by decide) rfl (fun ls hl => ?_)
      refine lv_aload_n hx hb dX4_shareOf_12 rfl (lv_at hl 3 rfl) ?_
      refine fr_getN (j := 3) C hP (by have := hk0a.2.1; omega) (fG_CU adr cs t5 hk0a) rfl (fun w h => List.mem_cons_of_mem _ (inl_X1 w h)) (by decide) rfl (by decide +kernel) rfl dX4_shareOf_13 ?_
      refine lv_if_ne (tgt := 33) hx hb dX4_shareOf_16 (by decide) (fun c9 => ?_) (fun c9 => ?_)
      · replace h := h.1 c9
        refine lv_aload_n hx hb dX4_shareOf_33 rfl (lv_at hl 3 rfl) ?_
        refine fr_getN (j := 2) C hP (by have := hk0a.2.1; omega) (fG_CU adr cs t5 hk0a) rfl (fun w h => List.mem_cons_of_mem _ (inl_X1 w h)) (by decide) rfl (by decide +kernel) rfl dX4_shareOf_34 ?_
        exact fr_aret C (some ((k0a + 1))) (Or.inr ⟨_, rfl⟩) rfl hP hS h dX4_shareOf_37
      · replace h := h.2 c9
        refine lv_aload_n hx hb dX4_shareOf_19 rfl (lv_at hl 1 rfl) ?_
        refine lv_ifnull hx hb dX4_shareOf_20 ?_
        refine lv_aload_nN hx hb dX4_shareOf_23 rfl (lv_at hl 0 rfl) ?_
        refine lv_ifnullN (tgt := 33) hx hb dX4_shareOf_24 (by decide) ?_
        refine lv_aload_n hx hb dX4_shareOf_33 rfl (lv_at hl 3 rfl) ?_
        refine fr_getN (j := 2) C hP (by have := hk0a.2.1; omega) (fG_CU adr cs t5 hk0a) rfl (fun w h => List.mem_cons_of_mem _ (inl_X1 w h)) (by decide) rfl (by decide +kernel) rfl dX4_shareOf_34 ?_
        exact fr_aret C (some ((k0a + 1))) (Or.inr ⟨_, rfl⟩) rfl hP hS h dX4_shareOf_37
    · obtain ⟨hi6, h⟩ := h.2 i6 rfl
      refine lv_astore_n (lv' := [(3, .ref (adr i6)), (2, .ref (adr i2)), (0, .ref (adr 0)), (1, .ref (adr k0a))]) hx hb dX4_shareOf_11 rfl hl (by decide) rfl (fun ls hl => ?_)
      refine lv_aload_n hx hb dX4_shareOf_12 rfl (lv_at hl 3 rfl) ?_
      refine fr_getN (j := 3) C hP (by have := hk0a.2.1; omega) (fG_CU adr cs t5 hk0a) rfl (fun w h => List.mem_cons_of_mem _ (inl_X1 w h)) (by decide) rfl (by decide +kernel) rfl dX4_shareOf_13 ?_
      refine lv_if_ne (tgt := 33) hx hb dX4_shareOf_16 (by decide) (fun c9 => ?_) (fun c9 => ?_)
      · replace h := h.1 c9
        refine lv_aload_n hx hb dX4_shareOf_33 rfl (lv_at hl 3 rfl) ?_
        refine fr_getN (j := 2) C hP (by have := hk0a.2.1; omega) (fG_CU adr cs t5 hk0a) rfl (fun w h => List.mem_cons_of_mem _ (inl_X1 w h)) (by decide) rfl (by decide +kernel) rfl dX4_shareOf_34 ?_
        exact fr_aret C (some ((k0a + 1))) (Or.inr ⟨_, rfl⟩) rfl hP hS h dX4_shareOf_37
      · replace h := h.2 c9
        refine lv_aload_n hx hb dX4_shareOf_19 rfl (lv_at hl 1 rfl) ?_
        refine lv_ifnull hx hb dX4_shareOf_20 ?_
        refine lv_aload_n hx hb dX4_shareOf_23 rfl (lv_at hl 0 rfl) ?_
        refine lv_ifnull hx hb dX4_shareOf_24 ?_
        refine lv_aload_n hx hb dX4_shareOf_27 rfl (lv_at hl 3 rfl) ?_
        refine lv_aload_n hx hb dX4_shareOf_28 rfl (lv_at hl 1 rfl) ?_
        refine lv_aload_n hx hb dX4_shareOf_29 rfl (lv_at hl 0 rfl) ?_
        refine fr_cv (fr_runV (n := 2) (rest := []) C (c_X1_makeShare l D adr cs hN t5 k0a hk0a i2 hi2 i6 hi6 _ h) hP hS (by have := hk0a.2.1; omega) (fG_CU adr cs t5 hk0a) rfl (fgV mw_23_16 mw_23_17 mw_23_18 mw_2_4 mw_23_19) rfl rfl rfl (by decide +kernel) ⟨Nat.le_of_ble_eq_true rfl, Nat.le_of_ble_eq_true rfl⟩ rfl hl.1 rfl (Nat.le_of_ble_eq_true rfl) dX4_shareOf_30) hS (fun t7 H locs h hP hS => ?_)
        refine lv_aload_n hx hb dX4_shareOf_33 rfl (lv_at hl 3 rfl) ?_
        refine fr_getN (j := 2) C hP (by have := hk0a.2.1; omega) (fG_CU adr cs t7 hk0a) rfl (fun w h => List.mem_cons_of_mem _ (inl_X1 w h)) (by decide) rfl (by decide +kernel) rfl dX4_shareOf_34 ?_
        exact fr_aret C (some ((k0a + 1))) (Or.inr ⟨_, rfl⟩) rfl hP hS h dX4_shareOf_37

/-! X4.share -/
abbrev wm_X4_share : List Cond := Cond.code yX4_share cX4_share 4 (some .int) :: wsL_law
def q_X4_share (t : fcS) (a0 : Int32) (a1 : Int32) (post : Int32 → fcS → Prop) : Prop := q_X4_curveAt t a0 (fun (r : Option Nat) (t1 : fcS) => (r = none → (post ((-1000000000)) t1)) ∧ (∀ i2 : Nat, r = some i2 → (fisC i2 ∧ ((a1 < 0 → (post ((-1000000000)) t1)) ∧ (¬ a1 < 0 → ((a1 ≤ (2 * (fgi t1 i2 8)) → (q_X4_shareOf t1 i2 (fun (r : Option Nat) (t3 : fcS) => (r = some (i2 + 1)) ∧ (q_X4_at t3 ((i2 + 1)) 5 a1 (fun (r6 : Int32) (t5 : fcS) => post r6 t5))))) ∧ (¬ a1 ≤ (2 * (fgi t1 i2 8)) → (post ((-1000000000)) t1))))))))
set_option maxHeartbeats 4000000 in
set_option maxRecDepth 100000 in
theorem c_X4_share (l : Launch) (D : va_G) (adr : Nat → Nat) (cs : Nat → ClassId) {N : Nat} (hN : 53 ≤ N) (t : fcS) (a0 : Int32) (a1 : Int32) (post : Int32 → fcS → Prop) (h : q_X4_share t a0 a1 post) : Met l yX4_share wm_X4_share ({ frames := 7, cells := 0, slots := 0, locals := 159 } : Room) (fcPre D adr cs N t [.ref (adr 0), .int a0, .int a1]) (fQi D adr cs N post) 0 0 (faN adr N) := by
  refine f_enter (cc := cX4_share) (nL := 4) (ret := some .int) (lv := [(0, .ref (adr 0)), (1, .int a0), (2, .int a1)]) (own := RX4) (by decide) rfl (Nat.le_of_ble_eq_true rfl) rfl rfl ?_
  intro p e s m below meth c ls C hP hS hl
  have hx := C.1.1
  have hb := C.1.2.1
  unfold q_X4_share at h
  refine lv_aload_n hx hb dX4_share_0 rfl (lv_at hl 0 rfl) ?_
  refine lv_iload_n hx hb dX4_share_1 rfl (lv_at hl 1 rfl) ?_
  refine fr_cq (fr_runV (n := 1) (rest := []) C (c_X4_curveAt l D adr cs hN t a0 _ h) hP hS (by omega) (fG_FC adr cs t) rfl (fgV mw_19_14 mw_19_15 mw_19_16 mw_1_2 mw_19_17) rfl rfl rfl (by decide +kernel) ⟨Nat.le_of_ble_eq_true rfl, Nat.le_of_ble_eq_true rfl⟩ rfl hl.1 rfl (Nat.le_of_ble_eq_true rfl) dX4_share_2) hS (fun t1 H locs h hP hS => ?_) (fun i2 t1 H locs h hP hS => ?_)
  · replace h := h.1 rfl
    refine lv_astore_nN (lv' := [(3, .null), (0, .ref (adr 0)), (1, .int a0), (2, .int a1)]) hx hb dX4_share_5 rfl hl (by decide) rfl (fun ls hl => ?_)
    refine lv_aload_nN hx hb dX4_share_6 rfl (lv_at hl 0 rfl) ?_
    refine lv_ifnullN (tgt := 24) hx hb dX4_share_7 (by decide) ?_
    refine lv_ldc hx hb (v := (-1000000000)) C.1.2.2.2.1 (C.1.2.2.2.2 _ (List.mem_cons_of_mem _ mw_14_3)) dX4_share_24 ?_
    exact fr_iret C hP hS h dX4_share_26
  · obtain ⟨hi2, h⟩ := h.2 i2 rfl
    refine lv_astore_n (lv' := [(3, .ref (adr i2)), (0, .ref (adr 0)), (1, .int a0), (2, .int a1)]) hx hb dX4_share_5 rfl hl (by decide) rfl (fun ls hl => ?_)
    refine lv_aload_n hx hb dX4_share_6 rfl (lv_at hl 0 rfl) ?_
    refine lv_ifnull hx hb dX4_share_7 ?_
    refine lv_iload_n hx hb dX4_share_10 rfl (lv_at hl 3 rfl) ?_
    refine lv_if_lt (tgt := 24) hx hb dX4_share_11 (by decide) (fun c9 => ?_) (fun c9 => ?_)
    · replace h := h.1 c9
      refine lv_ldc hx hb (v := (-1000000000)) C.1.2.2.2.1 (C.1.2.2.2.2 _ (List.mem_cons_of_mem _ mw_14_3)) dX4_share_24 ?_
      exact fr_iret C hP hS h dX4_share_26
    · replace h := h.2 c9
      refine lv_iload_n hx hb dX4_share_14 rfl (lv_at hl 3 rfl) ?_
      refine lv_iconst (v := 2) hx hb dX4_share_15 (by decide) ?_
      refine lv_aload_n hx hb dX4_share_16 rfl (lv_at hl 0 rfl) ?_
      refine fr_getN (j := 8) C hP (by have := hi2.2.1; omega) (fG_CU adr cs t1 hi2) rfl (fun w h => List.mem_cons_of_mem _ (inl_X1 w h)) (by decide) rfl (by decide +kernel) rfl dX4_share_17 ?_
      refine lv_imul hx hb dX4_share_20 ?_
      refine lv_icmp_le (tgt := 27) hx hb dX4_share_21 (by decide) (fun c9 => ?_) (fun c9 => ?_)
      · replace h := h.1 c9
        refine lv_aload_n hx hb dX4_share_27 rfl (lv_at hl 1 rfl) ?_
        refine lv_aload_n hx hb dX4_share_28 rfl (lv_at hl 0 rfl) ?_
        refine fr_cq (fr_runV (n := 1) (rest := []) C (c_X4_shareOf l D adr cs hN t1 i2 hi2 _ h) hP hS (by omega) (fG_FC adr cs t1) rfl (fgV mw_23_12 mw_23_13 mw_23_14 mw_1_2 mw_23_15) rfl rfl rfl (by decide +kernel) ⟨Nat.le_of_ble_eq_true rfl, Nat.le_of_ble_eq_true rfl⟩ rfl hl.1 rfl (Nat.le_of_ble_eq_true rfl) dX4_share_29) hS (fun t3 H locs h hP hS => absurd h.1 (by simp)) (fun i4 t3 H locs h hP hS => ?_)
        obtain ⟨h9, h⟩ := h
        obtain rfl := Option.some.inj h9
        refine lv_iload_n hx hb dX4_share_32 rfl (lv_at hl 3 rfl) ?_
        refine fr_ci (fr_runS (n := 2) (rest := []) C (c_X4_at l D adr cs hN t3 ((i2 + 1)) 5 (fun u => ((fun u => fG_CS adr cs u hi2) u)) (by have := hi2.2.1; have := hi2.2.2; omega) a1 _ h) hP hS (fgS mw_15_13 mw_6_19 mw_1_2 mw_6_20) rfl rfl rfl (by decide +kernel) ⟨Nat.le_of_ble_eq_true rfl, Nat.le_of_ble_eq_true rfl⟩ rfl hl.1 rfl (Nat.le_of_ble_eq_true rfl) dX4_share_33) hS (fun r6 t5 H locs h hP hS => ?_)
        exact fr_iret C hP hS h dX4_share_36
      · replace h := h.2 c9
        refine lv_ldc hx hb (v := (-1000000000)) C.1.2.2.2.1 (C.1.2.2.2.2 _ (List.mem_cons_of_mem _ mw_14_3)) dX4_share_24 ?_
        exact fr_iret C hP hS h dX4_share_26

