/-! X4.further -/
abbrev wm_X4_further : List Cond := Cond.code yX4_further cX4_further 11 (some .long) :: wsL_law
def q_X4_further_74 (i2 : Nat) (post : Int64 → fcS → Prop) (k38 : Int32 → Int64 → Int32 → fcS → Prop) : Nat → Int32 → Int64 → Int32 → Int64 → Int32 → fcS → Prop
  | 0, _, _, _, _, _, _ => False
  | n + 1, v2, v5, v7, v8, v10, t => (v7 ≤ v10 → ((vp_in v7 13) ∧ (∀ t9 : fcS, t9 = fsl t 5 (Int32.toNatClampNeg v7) ((-v8)) → (∀ x10 : Int32, x10 = v7 + 1 → (k38 v2 v5 x10 t9))))) ∧ (¬ v7 ≤ v10 → (q_X4_at t ((i2 + 1)) 5 v10 (fun (r12 : Int32) (t11 : fcS) => (vp_in ((v7 - v10)) 13) ∧ (∀ x13 : Int64, x13 = (v8 + ((Int32.toInt64 r12) * (fgl t11 5 (Int32.toNatClampNeg ((v7 - v10)))))) → (∀ x14 : Int32, x14 = v10 + 1 → (q_X4_further_74 i2 post k38 n v2 v5 v7 x13 x14 t11))))))
def q_X4_further_38 (i2 : Nat) (post : Int64 → fcS → Prop) : Nat → Int32 → Int64 → Int32 → fcS → Prop
  | 0, _, _, _, _ => False
  | n + 1, v2, v5, v7, t => (v2 < v7 → ((vp_in v2 13) ∧ (post (((v5 + 1) - (fgl t 5 (Int32.toNatClampNeg v2)))) t))) ∧ (¬ v2 < v7 → (∀ x5 : Int64, x5 = (v5 * (Int32.toInt64 ((fgi t 1 0)))) → (q_X4_at t ((i2 + 1)) 5 v7 (fun (r7 : Int32) (t6 : fcS) => ∀ x8 : Int64, x8 = ((Int32.toInt64 v7) * (Int32.toInt64 r7)) → (∃ n0, q_X4_further_74 i2 post (fun v2_ v5_ v7_ t_ => q_X4_further_38 i2 post n v2_ v5_ v7_ t_) n0 v2 x5 v7 x8 1 t6)))))
def q_X4_further (t : fcS) (a0 : Int32) (a1 : Int32) (post : Int64 → fcS → Prop) : Prop := q_X4_curveAt t a0 (fun (r : Option Nat) (t1 : fcS) => (r = none → (post ((-1)) t1)) ∧ (∀ i2 : Nat, r = some i2 → (fisC i2 ∧ ((a1 < 1 → (post ((-1)) t1)) ∧ (¬ a1 < 1 → ((a1 ≤ 12 → (q_X4_shareOf t1 i2 (fun (r : Option Nat) (t3 : fcS) => (r = some (i2 + 1)) ∧ (∃ n0, q_X4_further_38 i2 post n0 a1 1 1 t3)))) ∧ (¬ a1 ≤ 12 → (post ((-1)) t1))))))))
set_option maxHeartbeats 4000000 in
set_option maxRecDepth 100000 in
theorem k_X4_further_74 {D : va_G} {adr : Nat → Nat} {cs : Nat → ClassId} {N : Nat} (hN : 53 ≤ N) {p : Program} {l : Launch} {e : Env} {s : State} {m : MethodId} {args : Array Value} {below : List Frame} {meth : Method} {c : Code} (C : fCx D adr cs N p s m args meth c cX4_further 11 (some .long) RX4 wm_X4_further) (i2 : Nat) (hi2 : fisC i2) {post : Int64 → fcS → Prop} {k38 : Int32 → Int64 → Int32 → fcS → Prop} (hk38 : ∀ (v2 : Int32) (v5 : Int64) (v7 : Int32) (t : fcS) (H : Heap) (locs : List Loc) (ls : Array Slot), k38 v2 v5 v7 t → va_P D vwCl (fwl adr N (fG adr cs t)) H → va_S (faN adr N) s.heap H locs → lv_has ls 11 [(0, .ref (adr 0)), (2, .int v2), (4, .ref (adr ((i2 + 1)))), (5, .long v5), (7, .int v7)] → W p l e ({ frames := 7, cells := 0, slots := 0, locals := 159 } : Room) s m args below meth c H locs 0 0 (MQ below (fQl D adr cs N post) args s 0 0 (faN adr N)) (F0 m 38 ls [])) : ∀ (n : Nat) (v2 : Int32) (v5 : Int64) (v7 : Int32) (v8 : Int64) (v10 : Int32) (t : fcS) (H : Heap) (locs : List Loc) (ls : Array Slot), q_X4_further_74 i2 post k38 n v2 v5 v7 v8 v10 t → va_P D vwCl (fwl adr N (fG adr cs t)) H → va_S (faN adr N) s.heap H locs → lv_has ls 11 [(0, .ref (adr 0)), (2, .int v2), (4, .ref (adr ((i2 + 1)))), (5, .long v5), (7, .int v7), (8, .long v8), (10, .int v10)] → W p l e ({ frames := 7, cells := 0, slots := 0, locals := 159 } : Room) s m args below meth c H locs 0 0 (MQ below (fQl D adr cs N post) args s 0 0 (faN adr N)) (F0 m 74 ls []) := by
  have hx := C.1.1
  have hb := C.1.2.1
  intro n
  induction n with
  | zero => intro v2 v5 v7 v8 v10 t H locs ls h; exact False.elim h
  | succ n ih =>
    intro v2 v5 v7 v8 v10 t H locs ls h hP hS hl
    unfold q_X4_further_74 at h
    refine lv_iload hx hb dX4_further_74 (lv_at hl 6 rfl) ?_
    refine lv_iload hx hb dX4_further_76 (lv_at hl 4 rfl) ?_
    refine lv_icmp_ge (tgt := 111) hx hb dX4_further_78 (by decide) (fun c9 => ?_) (fun c9 => ?_)
    · replace h := h.1 c9
      refine lv_aload_n hx hb dX4_further_111 rfl (lv_at hl 0 rfl) ?_
      refine fr_get (j := 4) C hP (by omega) (fG_FC adr cs t) rfl (fun w h => List.mem_cons_of_mem _ (inl_X4 w h)) (by decide) rfl (List.mem_cons_of_mem _ mw_1_23) rfl dX4_further_112 ?_
      refine lv_iload hx hb dX4_further_115 (lv_at hl 4 rfl) ?_
      refine lv_lload hx hb dX4_further_117 (lv_at hl 5 rfl) ?_
      refine lv_lneg hx hb dX4_further_119 ?_
      refine fr_last C hP hS (by omega) (fun u => (fG_5 adr cs u)) h.1 dX4_further_120 (fun H locs hP hS => ?_)
      obtain ⟨t9, et9⟩ : ∃ y : fcS, y = fsl t 5 (Int32.toNatClampNeg v7) ((-v8)) := ⟨_, rfl⟩
      rw [← et9] at hP
      replace h := h.2 t9 et9
      obtain ⟨x10, ex10⟩ : ∃ y : Int32, y = v7 + 1 := ⟨_, rfl⟩
      replace h := h x10 ex10
      refine lv_iinc (v := x10) (lv' := [(7, .int x10), (0, .ref (adr 0)), (2, .int v2), (4, .ref (adr ((i2 + 1)))), (5, .long v5), (8, .long v8), (10, .int v10)]) hx hb dX4_further_121 hl (k := 4) rfl (by rw [ex10]; rfl) (by decide) rfl (fun ls hl => ?_)
      refine lv_goto (tgt := 38) hx hb dX4_further_124 (by decide) ?_
      exact hk38 v2 v5 x10 t9 _ _ _ h hP hS (lv_sub hl [1, 2, 3, 4, 0] rfl)
    · replace h := h.2 c9
      refine lv_lload hx hb dX4_further_81 (lv_at hl 5 rfl) ?_
      refine lv_aload hx hb dX4_further_83 (lv_at hl 2 rfl) ?_
      refine lv_iload hx hb dX4_further_85 (lv_at hl 6 rfl) ?_
      refine fr_ci (fr_runS (n := 2) (rest := [.long v8]) C (c_X4_at l D adr cs hN t ((i2 + 1)) 5 (fun u => ((fun u => fG_CS adr cs u hi2) u)) (by have := hi2.2.1; have := hi2.2.2; omega) v10 _ h) hP hS (fgS mw_15_13 mw_6_19 mw_1_2 mw_6_20) rfl rfl rfl (by decide +kernel) ⟨Nat.le_of_ble_eq_true rfl, Nat.le_of_ble_eq_true rfl⟩ rfl hl.1 rfl (Nat.le_of_ble_eq_true rfl) dX4_further_87) hS (fun r12 t11 H locs h hP hS => ?_)
      refine lv_i2l hx hb dX4_further_90 rfl ?_
      refine lv_aload_n hx hb dX4_further_91 rfl (lv_at hl 0 rfl) ?_
      refine fr_get (j := 4) C hP (by omega) (fG_FC adr cs t11) rfl (fun w h => List.mem_cons_of_mem _ (inl_X4 w h)) (by decide) rfl (List.mem_cons_of_mem _ mw_1_23) rfl dX4_further_92 ?_
      refine lv_iload hx hb dX4_further_95 (lv_at hl 4 rfl) ?_
      refine lv_iload hx hb dX4_further_97 (lv_at hl 6 rfl) ?_
      refine lv_isub hx hb dX4_further_99 ?_
      refine fr_lald C hP (by omega) (fG_5 adr cs t11) h.1 dX4_further_100 ?_
      replace h := h.2
      refine lv_lmul hx hb dX4_further_101 ?_
      refine lv_ladd hx hb dX4_further_102 ?_
      refine lv_topl (fun x13 ex13 => ?_)
      replace h := h x13 ex13
      refine lv_lstore (lv' := [(8, .long x13), (0, .ref (adr 0)), (2, .int v2), (4, .ref (adr ((i2 + 1)))), (5, .long v5), (7, .int v7), (10, .int v10)]) hx hb dX4_further_103 hl (by decide) rfl (fun ls hl => ?_)
      obtain ⟨x14, ex14⟩ : ∃ y : Int32, y = v10 + 1 := ⟨_, rfl⟩
      replace h := h x14 ex14
      refine lv_iinc (v := x14) (lv' := [(10, .int x14), (8, .long x13), (0, .ref (adr 0)), (2, .int v2), (4, .ref (adr ((i2 + 1)))), (5, .long v5), (7, .int v7)]) hx hb dX4_further_105 hl (k := 6) rfl (by rw [ex14]; rfl) (by decide) rfl (fun ls hl => ?_)
      refine lv_goto (tgt := 74) hx hb dX4_further_108 (by decide) ?_
      exact ih v2 v5 v7 x13 x14 t11 _ _ _ h hP hS (lv_sub hl [2, 3, 4, 5, 6, 1, 0] rfl)

set_option maxHeartbeats 4000000 in
set_option maxRecDepth 100000 in
theorem k_X4_further_38 {D : va_G} {adr : Nat → Nat} {cs : Nat → ClassId} {N : Nat} (hN : 53 ≤ N) {p : Program} {l : Launch} {e : Env} {s : State} {m : MethodId} {args : Array Value} {below : List Frame} {meth : Method} {c : Code} (C : fCx D adr cs N p s m args meth c cX4_further 11 (some .long) RX4 wm_X4_further) (i2 : Nat) (hi2 : fisC i2) {post : Int64 → fcS → Prop} : ∀ (n : Nat) (v2 : Int32) (v5 : Int64) (v7 : Int32) (t : fcS) (H : Heap) (locs : List Loc) (ls : Array Slot), q_X4_further_38 i2 post n v2 v5 v7 t → va_P D vwCl (fwl adr N (fG adr cs t)) H → va_S (faN adr N) s.heap H locs → lv_has ls 11 [(0, .ref (adr 0)), (2, .int v2), (4, .ref (adr ((i2 + 1)))), (5, .long v5), (7, .int v7)] → W p l e ({ frames := 7, cells := 0, slots := 0, locals := 159 } : Room) s m args below meth c H locs 0 0 (MQ below (fQl D adr cs N post) args s 0 0 (faN adr N)) (F0 m 38 ls []) := by
  have hx := C.1.1
  have hb := C.1.2.1
  intro n
  induction n with
  | zero => intro v2 v5 v7 t H locs ls h; exact False.elim h
  | succ n ih =>
    intro v2 v5 v7 t H locs ls h hP hS hl
    unfold q_X4_further_38 at h
    refine lv_iload hx hb dX4_further_38 (lv_at hl 4 rfl) ?_
    refine lv_iload_n hx hb dX4_further_40 rfl (lv_at hl 1 rfl) ?_
    refine lv_icmp_gt (tgt := 127) hx hb dX4_further_41 (by decide) (fun c9 => ?_) (fun c9 => ?_)
    · replace h := h.1 c9
      refine lv_lload hx hb dX4_further_127 (lv_at hl 3 rfl) ?_
      refine lv_lconst (v := 1) hx hb dX4_further_129 (by decide) ?_
      refine lv_ladd hx hb dX4_further_130 ?_
      refine lv_aload_n hx hb dX4_further_131 rfl (lv_at hl 0 rfl) ?_
      refine fr_get (j := 4) C hP (by omega) (fG_FC adr cs t) rfl (fun w h => List.mem_cons_of_mem _ (inl_X4 w h)) (by decide) rfl (List.mem_cons_of_mem _ mw_1_23) rfl dX4_further_132 ?_
      refine lv_iload_n hx hb dX4_further_135 rfl (lv_at hl 1 rfl) ?_
      refine fr_lald C hP (by omega) (fG_5 adr cs t) h.1 dX4_further_136 ?_
      replace h := h.2
      refine lv_lsub hx hb dX4_further_137 ?_
      exact fr_lret C hP hS h dX4_further_138
    · replace h := h.2 c9
      refine lv_lload hx hb dX4_further_44 (lv_at hl 3 rfl) ?_
      refine lv_aload_n hx hb dX4_further_46 rfl (lv_at hl 0 rfl) ?_
      refine fr_get (j := 0) C hP (by omega) (fG_FC adr cs t) rfl (fun w h => List.mem_cons_of_mem _ (inl_X4 w h)) (by decide) rfl (List.mem_cons_of_mem _ mw_1_15) rfl dX4_further_47 ?_
      refine fr_getN (j := 0) C hP (by omega) (fG_PO adr cs t) rfl (fun w h => List.mem_cons_of_mem _ (inl_X3 w h)) (by decide) rfl (by decide +kernel) rfl dX4_further_50 ?_
      refine lv_i2l hx hb dX4_further_53 rfl ?_
      refine lv_lmul hx hb dX4_further_54 ?_
      refine lv_topl (fun x5 ex5 => ?_)
      replace h := h x5 ex5
      refine lv_lstore (lv' := [(5, .long x5), (0, .ref (adr 0)), (2, .int v2), (4, .ref (adr ((i2 + 1)))), (7, .int v7)]) hx hb dX4_further_55 hl (by decide) rfl (fun ls hl => ?_)
      refine lv_iload hx hb dX4_further_57 (lv_at hl 4 rfl) ?_
      refine lv_i2l hx hb dX4_further_59 rfl ?_
      refine lv_aload hx hb dX4_further_60 (lv_at hl 3 rfl) ?_
      refine lv_iload hx hb dX4_further_62 (lv_at hl 4 rfl) ?_
      refine fr_ci (fr_runS (n := 2) (rest := [.long ((Int32.toInt64 v7))]) C (c_X4_at l D adr cs hN t ((i2 + 1)) 5 (fun u => ((fun u => fG_CS adr cs u hi2) u)) (by have := hi2.2.1; have := hi2.2.2; omega) v7 _ h) hP hS (fgS mw_15_13 mw_6_19 mw_1_2 mw_6_20) rfl rfl rfl (by decide +kernel) ⟨Nat.le_of_ble_eq_true rfl, Nat.le_of_ble_eq_true rfl⟩ rfl hl.1 rfl (Nat.le_of_ble_eq_true rfl) dX4_further_64) hS (fun r7 t6 H locs h hP hS => ?_)
      refine lv_i2l hx hb dX4_further_67 rfl ?_
      refine lv_lmul hx hb dX4_further_68 ?_
      refine lv_topl (fun x8 ex8 => ?_)
      replace h := h x8 ex8
      refine lv_lstore (lv' := [(8, .long x8), (5, .long x5), (0, .ref (adr 0)), (2, .int v2), (4, .ref (adr ((i2 + 1)))), (7, .int v7)]) hx hb dX4_further_69 hl (by decide) rfl (fun ls hl => ?_)
      refine lv_iconst (v := 1) hx hb dX4_further_71 (by decide) ?_
      refine lv_istore (lv' := [(10, .int 1), (8, .long x8), (5, .long x5), (0, .ref (adr 0)), (2, .int v2), (4, .ref (adr ((i2 + 1)))), (7, .int v7)]) hx hb dX4_further_72 hl (by decide) rfl (fun ls hl => ?_)
      obtain ⟨n9, h⟩ := h
      exact k_X4_further_74 hN C i2 hi2 ih n9 v2 x5 v7 x8 1 t6 _ _ _ h hP hS (lv_sub hl [3, 4, 5, 2, 6, 1, 0] rfl)

set_option maxHeartbeats 4000000 in
set_option maxRecDepth 100000 in
theorem c_X4_further (l : Launch) (D : va_G) (adr : Nat → Nat) (cs : Nat → ClassId) {N : Nat} (hN : 53 ≤ N) (t : fcS) (a0 : Int32) (a1 : Int32) (post : Int64 → fcS → Prop) (h : q_X4_further t a0 a1 post) : Met l yX4_further wm_X4_further ({ frames := 7, cells := 0, slots := 0, locals := 159 } : Room) (fcPre D adr cs N t [.ref (adr 0), .int a0, .int a1]) (fQl D adr cs N post) 0 0 (faN adr N) := by
  refine f_enter (cc := cX4_further) (nL := 11) (ret := some .long) (lv := [(0, .ref (adr 0)), (1, .int a0), (2, .int a1)]) (own := RX4) (by decide) rfl (Nat.le_of_ble_eq_true rfl) rfl rfl ?_
  intro p e s m below meth c ls C hP hS hl
  have hx := C.1.1
  have hb := C.1.2.1
  unfold q_X4_further at h
  refine lv_aload_n hx hb dX4_further_0 rfl (lv_at hl 0 rfl) ?_
  refine lv_iload_n hx hb dX4_further_1 rfl (lv_at hl 1 rfl) ?_
  refine fr_cq (fr_runV (n := 1) (rest := []) C (c_X4_curveAt l D adr cs hN t a0 _ h) hP hS (by omega) (fG_FC adr cs t) rfl (fgV mw_19_14 mw_19_15 mw_19_16 mw_1_2 mw_19_17) rfl rfl rfl (by decide +kernel) ⟨Nat.le_of_ble_eq_true rfl, Nat.le_of_ble_eq_true rfl⟩ rfl hl.1 rfl (Nat.le_of_ble_eq_true rfl) dX4_further_2) hS (fun t1 H locs h hP hS => ?_) (fun i2 t1 H locs h hP hS => ?_)
  · replace h := h.1 rfl
    refine lv_astore_nN (lv' := [(3, .null), (0, .ref (adr 0)), (1, .int a0), (2, .int a1)]) hx hb dX4_further_5 rfl hl (by decide) rfl (fun ls hl => ?_)
    refine lv_aload_nN hx hb dX4_further_6 rfl (lv_at hl 0 rfl) ?_
    refine lv_ifnullN (tgt := 21) hx hb dX4_further_7 (by decide) ?_
    refine lv_ldc2 hx hb (v := (-1)) C.1.2.2.2.1 (C.1.2.2.2.2 _ (List.mem_cons_of_mem _ mw_24_11)) dX4_further_21 ?_
    exact fr_lret C hP hS h dX4_further_24
  · obtain ⟨hi2, h⟩ := h.2 i2 rfl
    refine lv_astore_n (lv' := [(3, .ref (adr i2)), (0, .ref (adr 0)), (1, .int a0), (2, .int a1)]) hx hb dX4_further_5 rfl hl (by decide) rfl (fun ls hl => ?_)
    refine lv_aload_n hx hb dX4_further_6 rfl (lv_at hl 0 rfl) ?_
    refine lv_ifnull hx hb dX4_further_7 ?_
    refine lv_iload_n hx hb dX4_further_10 rfl (lv_at hl 3 rfl) ?_
    refine lv_iconst (v := 1) hx hb dX4_further_11 (by decide) ?_
    refine lv_icmp_lt (tgt := 21) hx hb dX4_further_12 (by decide) (fun c9 => ?_) (fun c9 => ?_)
    · replace h := h.1 c9
      refine lv_ldc2 hx hb (v := (-1)) C.1.2.2.2.1 (C.1.2.2.2.2 _ (List.mem_cons_of_mem _ mw_24_11)) dX4_further_21 ?_
      exact fr_lret C hP hS h dX4_further_24
    · replace h := h.2 c9
      refine lv_iload_n hx hb dX4_further_15 rfl (lv_at hl 3 rfl) ?_
      refine lv_bipush (v := 12) hx hb dX4_further_16 (by decide) ?_
      refine lv_icmp_le (tgt := 25) hx hb dX4_further_18 (by decide) (fun c9 => ?_) (fun c9 => ?_)
      · replace h := h.1 c9
        refine lv_aload_n hx hb dX4_further_25 rfl (lv_at hl 1 rfl) ?_
        refine lv_aload_n hx hb dX4_further_26 rfl (lv_at hl 0 rfl) ?_
        refine fr_cq (fr_runV (n := 1) (rest := []) C (c_X4_shareOf l D adr cs hN t1 i2 hi2 _ h) hP hS (by omega) (fG_FC adr cs t1) rfl (fgV mw_23_12 mw_23_13 mw_23_14 mw_1_2 mw_23_15) rfl rfl rfl (by decide +kernel) ⟨Nat.le_of_ble_eq_true rfl, Nat.le_of_ble_eq_true rfl⟩ rfl hl.1 rfl (Nat.le_of_ble_eq_true rfl) dX4_further_27) hS (fun t3 H locs h hP hS => absurd h.1 (by simp)) (fun i4 t3 H locs h hP hS => ?_)
        obtain ⟨h9, h⟩ := h
        obtain rfl := Option.some.inj h9
        refine lv_astore (lv' := [(4, .ref (adr ((i2 + 1)))), (3, .ref (adr i2)), (0, .ref (adr 0)), (1, .int a0), (2, .int a1)]) hx hb dX4_further_30 hl (by decide) rfl (fun ls hl => ?_)
        refine lv_lconst (v := 1) hx hb dX4_further_32 (by decide) ?_
        refine lv_lstore (lv' := [(5, .long 1), (4, .ref (adr ((i2 + 1)))), (3, .ref (adr i2)), (0, .ref (adr 0)), (1, .int a0), (2, .int a1)]) hx hb dX4_further_33 hl (by decide) rfl (fun ls hl => ?_)
        refine lv_iconst (v := 1) hx hb dX4_further_35 (by decide) ?_
        refine lv_istore (lv' := [(7, .int 1), (5, .long 1), (4, .ref (adr ((i2 + 1)))), (3, .ref (adr i2)), (0, .ref (adr 0)), (1, .int a0), (2, .int a1)]) hx hb dX4_further_36 hl (by decide) rfl (fun ls hl => ?_)
        obtain ⟨n9, h⟩ := h
        exact k_X4_further_38 hN C i2 hi2 n9 a1 1 1 t3 _ _ _ h hP hS (lv_sub hl [4, 6, 2, 1, 0] rfl)
      · replace h := h.2 c9
        refine lv_ldc2 hx hb (v := (-1)) C.1.2.2.2.1 (C.1.2.2.2.2 _ (List.mem_cons_of_mem _ mw_24_11)) dX4_further_21 ?_
        exact fr_lret C hP hS h dX4_further_24

/-! X4.whole -/
abbrev wm_X4_whole : List Cond := Cond.code yX4_whole cX4_whole 8 (some .int) :: wsL_law
def q_X4_whole_29 (i2 : Nat) (post : Int32 → fcS → Prop) : Nat → Int32 → Int32 → Int32 → fcS → Prop
  | 0, _, _, _, _ => False
  | n + 1, v3, v5, v6, t => (v5 ≤ v6 → (post v3 t)) ∧ (¬ v5 ≤ v6 → ((vp_in v6 5) ∧ (∀ x5 : Int32, x5 = (fga t ((i2 + 1)) (Int32.toNatClampNeg v6)) → (∀ x6 : Int32, x6 = (v3 + x5) → (∀ x7 : Int32, x7 = v6 + 1 → (q_X4_whole_29 i2 post n x6 v5 x7 t))))))
def q_X4_whole (t : fcS) (a0 : Int32) (post : Int32 → fcS → Prop) : Prop := q_X4_curveAt t a0 (fun (r : Option Nat) (t1 : fcS) => (r = none → (post ((-1)) t1)) ∧ (∀ i2 : Nat, r = some i2 → (fisC i2 ∧ (q_X4_shareOf t1 i2 (fun (r : Option Nat) (t3 : fcS) => (r = some (i2 + 1)) ∧ (∃ n0, q_X4_whole_29 i2 post n0 0 5 0 t3))))))
set_option maxHeartbeats 4000000 in
set_option maxRecDepth 100000 in
theorem k_X4_whole_29 {D : va_G} {adr : Nat → Nat} {cs : Nat → ClassId} {N : Nat} (hN : 53 ≤ N) {p : Program} {l : Launch} {e : Env} {s : State} {m : MethodId} {args : Array Value} {below : List Frame} {meth : Method} {c : Code} (C : fCx D adr cs N p s m args meth c cX4_whole 8 (some .int) RX4 wm_X4_whole) (i2 : Nat) (hi2 : fisC i2) {post : Int32 → fcS → Prop} : ∀ (n : Nat) (v3 : Int32) (v5 : Int32) (v6 : Int32) (t : fcS) (H : Heap) (locs : List Loc) (ls : Array Slot), q_X4_whole_29 i2 post n v3 v5 v6 t → va_P D vwCl (fwl adr N (fG adr cs t)) H → va_S (faN adr N) s.heap H locs → lv_has ls 8 [(3, .int v3), (4, .ref (adr ((i2 + 1)))), (5, .int v5), (6, .int v6)] → W p l e ({ frames := 7, cells := 0, slots := 0, locals := 159 } : Room) s m args below meth c H locs 0 0 (MQ below (fQi D adr cs N post) args s 0 0 (faN adr N)) (F0 m 29 ls []) := by
  have hx := C.1.1
  have hb := C.1.2.1
  intro n
  induction n with
  | zero => intro v3 v5 v6 t H locs ls h; exact False.elim h
  | succ n ih =>
    intro v3 v5 v6 t H locs ls h hP hS hl
    unfold q_X4_whole_29 at h
    refine lv_iload hx hb dX4_whole_29 (lv_at hl 3 rfl) ?_
    refine lv_iload hx hb dX4_whole_31 (lv_at hl 2 rfl) ?_
    refine lv_icmp_ge (tgt := 54) hx hb dX4_whole_33 (by decide) (fun c9 => ?_) (fun c9 => ?_)
    · replace h := h.1 c9
      refine lv_iload_n hx hb dX4_whole_54 rfl (lv_at hl 0 rfl) ?_
      exact fr_iret C hP hS h dX4_whole_55
    · replace h := h.2 c9
      refine lv_aload hx hb dX4_whole_36 (lv_at hl 1 rfl) ?_
      refine lv_iload hx hb dX4_whole_38 (lv_at hl 3 rfl) ?_
      refine fr_iald C hP (by have := hi2.2.1; have := hi2.2.2; omega) ((fun u => fG_CS adr cs u hi2) t) h.1 dX4_whole_40 ?_
      replace h := h.2
      refine lv_topi (fun x5 ex5 => ?_)
      replace h := h x5 ex5
      refine lv_istore (lv' := [(7, .int x5), (3, .int v3), (4, .ref (adr ((i2 + 1)))), (5, .int v5), (6, .int v6)]) hx hb dX4_whole_41 hl (by decide) rfl (fun ls hl => ?_)
      refine lv_iload_n hx hb dX4_whole_43 rfl (lv_at hl 1 rfl) ?_
      refine lv_iload hx hb dX4_whole_44 (lv_at hl 0 rfl) ?_
      refine lv_iadd hx hb dX4_whole_46 ?_
      refine lv_topi (fun x6 ex6 => ?_)
      replace h := h x6 ex6
      refine lv_istore_n (lv' := [(3, .int x6), (7, .int x5), (4, .ref (adr ((i2 + 1)))), (5, .int v5), (6, .int v6)]) hx hb dX4_whole_47 rfl hl (by decide) rfl (fun ls hl => ?_)
      obtain ⟨x7, ex7⟩ : ∃ y : Int32, y = v6 + 1 := ⟨_, rfl⟩
      replace h := h x7 ex7
      refine lv_iinc (v := x7) (lv' := [(6, .int x7), (3, .int x6), (7, .int x5), (4, .ref (adr ((i2 + 1)))), (5, .int v5)]) hx hb dX4_whole_48 hl (k := 4) rfl (by rw [ex7]; rfl) (by decide) rfl (fun ls hl => ?_)
      refine lv_goto (tgt := 29) hx hb dX4_whole_51 (by decide) ?_
      exact ih x6 v5 x7 t _ _ _ h hP hS (lv_sub hl [1, 3, 4, 0] rfl)

set_option maxHeartbeats 4000000 in
set_option maxRecDepth 100000 in
theorem c_X4_whole (l : Launch) (D : va_G) (adr : Nat → Nat) (cs : Nat → ClassId) {N : Nat} (hN : 53 ≤ N) (t : fcS) (a0 : Int32) (post : Int32 → fcS → Prop) (h : q_X4_whole t a0 post) : Met l yX4_whole wm_X4_whole ({ frames := 7, cells := 0, slots := 0, locals := 159 } : Room) (fcPre D adr cs N t [.ref (adr 0), .int a0]) (fQi D adr cs N post) 0 0 (faN adr N) := by
  refine f_enter (cc := cX4_whole) (nL := 8) (ret := some .int) (lv := [(0, .ref (adr 0)), (1, .int a0)]) (own := RX4) (by decide) rfl (Nat.le_of_ble_eq_true rfl) rfl rfl ?_
  intro p e s m below meth c ls C hP hS hl
  have hx := C.1.1
  have hb := C.1.2.1
  unfold q_X4_whole at h
  refine lv_aload_n hx hb dX4_whole_0 rfl (lv_at hl 0 rfl) ?_
  refine lv_iload_n hx hb dX4_whole_1 rfl (lv_at hl 1 rfl) ?_
  refine fr_cq (fr_runV (n := 1) (rest := []) C (c_X4_curveAt l D adr cs hN t a0 _ h) hP hS (by omega) (fG_FC adr cs t) rfl (fgV mw_19_14 mw_19_15 mw_19_16 mw_1_2 mw_19_17) rfl rfl rfl (by decide +kernel) ⟨Nat.le_of_ble_eq_true rfl, Nat.le_of_ble_eq_true rfl⟩ rfl hl.1 rfl (Nat.le_of_ble_eq_true rfl) dX4_whole_2) hS (fun t1 H locs h hP hS => ?_) (fun i2 t1 H locs h hP hS => ?_)
  · replace h := h.1 rfl
    refine lv_astore_nN (lv' := [(2, .null), (0, .ref (adr 0)), (1, .int a0)]) hx hb dX4_whole_5 rfl hl (by decide) rfl (fun ls hl => ?_)
    refine lv_aload_nN hx hb dX4_whole_6 rfl (lv_at hl 0 rfl) ?_
    refine lv_ifnonnullN hx hb dX4_whole_7 ?_
    refine lv_iconst (v := (-1)) hx hb dX4_whole_10 (by decide) ?_
    exact fr_iret C hP hS h dX4_whole_11
  · obtain ⟨hi2, h⟩ := h.2 i2 rfl
    refine lv_astore_n (lv' := [(2, .ref (adr i2)), (0, .ref (adr 0)), (1, .int a0)]) hx hb dX4_whole_5 rfl hl (by decide) rfl (fun ls hl => ?_)
    refine lv_aload_n hx hb dX4_whole_6 rfl (lv_at hl 0 rfl) ?_
    refine lv_ifnonnull (tgt := 12) hx hb dX4_whole_7 (by decide) ?_
    refine lv_iconst (v := 0) hx hb dX4_whole_12 (by decide) ?_
    refine lv_istore_n (lv' := [(3, .int 0), (2, .ref (adr i2)), (0, .ref (adr 0)), (1, .int a0)]) hx hb dX4_whole_13 rfl hl (by decide) rfl (fun ls hl => ?_)
    refine lv_aload_n hx hb dX4_whole_14 rfl (lv_at hl 2 rfl) ?_
    refine lv_aload_n hx hb dX4_whole_15 rfl (lv_at hl 1 rfl) ?_
    refine fr_cq (fr_runV (n := 1) (rest := []) C (c_X4_shareOf l D adr cs hN t1 i2 hi2 _ h) hP hS (by omega) (fG_FC adr cs t1) rfl (fgV mw_23_12 mw_23_13 mw_23_14 mw_1_2 mw_23_15) rfl rfl rfl (by decide +kernel) ⟨Nat.le_of_ble_eq_true rfl, Nat.le_of_ble_eq_true rfl⟩ rfl hl.1 rfl (Nat.le_of_ble_eq_true rfl) dX4_whole_16) hS (fun t3 H locs h hP hS => absurd h.1 (by simp)) (fun i4 t3 H locs h hP hS => ?_)
    obtain ⟨h9, h⟩ := h
    obtain rfl := Option.some.inj h9
    refine lv_astore (lv' := [(4, .ref (adr ((i2 + 1)))), (3, .int 0), (2, .ref (adr i2)), (0, .ref (adr 0)), (1, .int a0)]) hx hb dX4_whole_19 hl (by decide) rfl (fun ls hl => ?_)
    refine lv_aload hx hb dX4_whole_21 (lv_at hl 0 rfl) ?_
    refine fr_alen (q := 0) (v := 5) C hP (by have := hi2.2.1; have := hi2.2.2; omega) ((fun u => fG_CS adr cs u hi2) t3) rfl rfl dX4_whole_23 ?_
    refine lv_istore (lv' := [(5, .int 5), (4, .ref (adr ((i2 + 1)))), (3, .int 0), (2, .ref (adr i2)), (0, .ref (adr 0)), (1, .int a0)]) hx hb dX4_whole_24 hl (by decide) rfl (fun ls hl => ?_)
    refine lv_iconst (v := 0) hx hb dX4_whole_26 (by decide) ?_
    refine lv_istore (lv' := [(6, .int 0), (5, .int 5), (4, .ref (adr ((i2 + 1)))), (3, .int 0), (2, .ref (adr i2)), (0, .ref (adr 0)), (1, .int a0)]) hx hb dX4_whole_27 hl (by decide) rfl (fun ls hl => ?_)
    obtain ⟨n9, h⟩ := h
    exact k_X4_whole_29 hN C i2 hi2 n9 0 5 0 t3 _ _ _ h hP hS (lv_sub hl [3, 2, 1, 0] rfl)

/-! X4.bound -/
abbrev wm_X4_bound : List Cond := Cond.code yX4_bound cX4_bound 4 (some .int) :: wsL_law
def q_X4_bound_28 (post : Int32 → fcS → Prop) : Nat → Int32 → Int32 → fcS → Prop
  | 0, _, _, _ => False
  | n + 1, v2, v3, t => (v2 ≤ v3 → (post v3 t)) ∧ (¬ v2 ≤ v3 → ((v2 < ((v3 + 1) * (v3 + 1)) → (post v3 t)) ∧ (¬ v2 < ((v3 + 1) * (v3 + 1)) → (∀ x2 : Int32, x2 = v3 + 1 → (q_X4_bound_28 post n v2 x2 t)))))
def q_X4_bound (t : fcS) (a0 : Int32) (post : Int32 → fcS → Prop) : Prop := (a0 < 1 → (post ((-1)) t)) ∧ (¬ a0 < 1 → ((a0 ≤ 2 → (∀ x1 : Int32, x1 = (((4 * a0) * a0) * (fgi t 1 0)) → (∃ n0, q_X4_bound_28 post n0 x1 0 t))) ∧ (¬ a0 ≤ 2 → (post ((-1)) t))))
set_option maxHeartbeats 4000000 in
set_option maxRecDepth 100000 in
theorem k_X4_bound_28 {D : va_G} {adr : Nat → Nat} {cs : Nat → ClassId} {N : Nat} (hN : 53 ≤ N) {p : Program} {l : Launch} {e : Env} {s : State} {m : MethodId} {args : Array Value} {below : List Frame} {meth : Method} {c : Code} (C : fCx D adr cs N p s m args meth c cX4_bound 4 (some .int) RX4 wm_X4_bound) {post : Int32 → fcS → Prop} : ∀ (n : Nat) (v2 : Int32) (v3 : Int32) (t : fcS) (H : Heap) (locs : List Loc) (ls : Array Slot), q_X4_bound_28 post n v2 v3 t → va_P D vwCl (fwl adr N (fG adr cs t)) H → va_S (faN adr N) s.heap H locs → lv_has ls 4 [(2, .int v2), (3, .int v3)] → W p l e ({ frames := 0, cells := 0, slots := 0, locals := 0 } : Room) s m args below meth c H locs 0 0 (MQ below (fQi D adr cs N post) args s 0 0 (faN adr N)) (F0 m 28 ls []) := by
  have hx := C.1.1
  have hb := C.1.2.1
  intro n
  induction n with
  | zero => intro v2 v3 t H locs ls h; exact False.elim h
  | succ n ih =>
    intro v2 v3 t H locs ls h hP hS hl
    unfold q_X4_bound_28 at h
    refine lv_iload_n hx hb dX4_bound_28 rfl (lv_at hl 1 rfl) ?_
    refine lv_iload_n hx hb dX4_bound_29 rfl (lv_at hl 0 rfl) ?_
    refine lv_icmp_ge (tgt := 50) hx hb dX4_bound_30 (by decide) (fun c9 => ?_) (fun c9 => ?_)
    · replace h := h.1 c9
      refine lv_iload_n hx hb dX4_bound_50 rfl (lv_at hl 1 rfl) ?_
      exact fr_iret C hP hS h dX4_bound_51
    · replace h := h.2 c9
      refine lv_iload_n hx hb dX4_bound_33 rfl (lv_at hl 1 rfl) ?_
      refine lv_iconst (v := 1) hx hb dX4_bound_34 (by decide) ?_
      refine lv_iadd hx hb dX4_bound_35 ?_
      refine lv_iload_n hx hb dX4_bound_36 rfl (lv_at hl 1 rfl) ?_
      refine lv_iconst (v := 1) hx hb dX4_bound_37 (by decide) ?_
      refine lv_iadd hx hb dX4_bound_38 ?_
      refine lv_imul hx hb dX4_bound_39 ?_
      refine lv_iload_n hx hb dX4_bound_40 rfl (lv_at hl 0 rfl) ?_
      refine lv_icmp_gt (tgt := 50) hx hb dX4_bound_41 (by decide) (fun c9 => ?_) (fun c9 => ?_)
      · replace h := h.1 c9
        refine lv_iload_n hx hb dX4_bound_50 rfl (lv_at hl 1 rfl) ?_
        exact fr_iret C hP hS h dX4_bound_51
      · replace h := h.2 c9
        obtain ⟨x2, ex2⟩ : ∃ y : Int32, y = v3 + 1 := ⟨_, rfl⟩
        replace h := h x2 ex2
        refine lv_iinc (v := x2) (lv' := [(3, .int x2), (2, .int v2)]) hx hb dX4_bound_44 hl (k := 1) rfl (by rw [ex2]; rfl) (by decide) rfl (fun ls hl => ?_)
        refine lv_goto (tgt := 28) hx hb dX4_bound_47 (by decide) ?_
        exact ih v2 x2 t _ _ _ h hP hS (lv_sub hl [1, 0] rfl)

set_option maxHeartbeats 4000000 in
set_option maxRecDepth 100000 in
theorem c_X4_bound (l : Launch) (D : va_G) (adr : Nat → Nat) (cs : Nat → ClassId) {N : Nat} (hN : 53 ≤ N) (t : fcS) (a0 : Int32) (post : Int32 → fcS → Prop) (h : q_X4_bound t a0 post) : Met l yX4_bound wm_X4_bound ({ frames := 0, cells := 0, slots := 0, locals := 0 } : Room) (fcPre D adr cs N t [.ref (adr 0), .int a0]) (fQi D adr cs N post) 0 0 (faN adr N) := by
  refine f_enter (cc := cX4_bound) (nL := 4) (ret := some .int) (lv := [(0, .ref (adr 0)), (1, .int a0)]) (own := RX4) (by decide) rfl (Nat.le_of_ble_eq_true rfl) rfl rfl ?_
  intro p e s m below meth c ls C hP hS hl
  have hx := C.1.1
  have hb := C.1.2.1
  unfold q_X4_bound at h
  refine lv_iload_n hx hb dX4_bound_0 rfl (lv_at hl 1 rfl) ?_
  refine lv_iconst (v := 1) hx hb dX4_bound_1 (by decide) ?_
  refine lv_icmp_lt (tgt := 10) hx hb dX4_bound_2 (by decide) (fun c9 => ?_) (fun c9 => ?_)
  · replace h := h.1 c9
    refine lv_iconst (v := (-1)) hx hb dX4_bound_10 (by decide) ?_
    exact fr_iret C hP hS h dX4_bound_11
  · replace h := h.2 c9
    refine lv_iload_n hx hb dX4_bound_5 rfl (lv_at hl 1 rfl) ?_
    refine lv_iconst (v := 2) hx hb dX4_bound_6 (by decide) ?_
    refine lv_icmp_le (tgt := 12) hx hb dX4_bound_7 (by decide) (fun c9 => ?_) (fun c9 => ?_)
    · replace h := h.1 c9
      refine lv_iconst (v := 4) hx hb dX4_bound_12 (by decide) ?_
      refine lv_iload_n hx hb dX4_bound_13 rfl (lv_at hl 1 rfl) ?_
      refine lv_imul hx hb dX4_bound_14 ?_
      refine lv_iload_n hx hb dX4_bound_15 rfl (lv_at hl 1 rfl) ?_
      refine lv_imul hx hb dX4_bound_16 ?_
      refine lv_aload_n hx hb dX4_bound_17 rfl (lv_at hl 0 rfl) ?_
      refine fr_get (j := 0) C hP (by omega) (fG_FC adr cs t) rfl (fun w h => List.mem_cons_of_mem _ (inl_X4 w h)) (by decide) rfl (List.mem_cons_of_mem _ mw_1_15) rfl dX4_bound_18 ?_
      refine fr_getN (j := 0) C hP (by omega) (fG_PO adr cs t) rfl (fun w h => List.mem_cons_of_mem _ (inl_X3 w h)) (by decide) rfl (by decide +kernel) rfl dX4_bound_21 ?_
      refine lv_imul hx hb dX4_bound_24 ?_
      refine lv_topi (fun x1 ex1 => ?_)
      replace h := h x1 ex1
      refine lv_istore_n (lv' := [(2, .int x1), (0, .ref (adr 0)), (1, .int a0)]) hx hb dX4_bound_25 rfl hl (by decide) rfl (fun ls hl => ?_)
      refine lv_iconst (v := 0) hx hb dX4_bound_26 (by decide) ?_
      refine lv_istore_n (lv' := [(3, .int 0), (2, .int x1), (0, .ref (adr 0)), (1, .int a0)]) hx hb dX4_bound_27 rfl hl (by decide) rfl (fun ls hl => ?_)
      obtain ⟨n9, h⟩ := h
      exact k_X4_bound_28 hN C n9 x1 0 t _ _ _ h hP hS (lv_sub hl [1, 0] rfl)
    · replace h := h.2 c9
      refine lv_iconst (v := (-1)) hx hb dX4_bound_10 (by decide) ?_
      exact fr_iret C hP hS h dX4_bound_11

/-! X4.surface -/
abbrev wm_X4_surface : List Cond := Cond.code yX4_surface cX4_surface 8 (some .int) :: wsL_law
def q_X4_surface (t : fcS) (a0 : Int32) (a1 : Int32) (a2 : Int32) (post : Int32 → fcS → Prop) : Prop := q_X4_curveAt t a0 (fun (r : Option Nat) (t1 : fcS) => (r = none → (q_X4_curveAt t1 a1 (fun (r : Option Nat) (t3 : fcS) => (r = none → (q_X4_fieldAt t3 a2 (fun (r : Option Nat) (t5 : fcS) => (r = none → (post ((-1)) t5)) ∧ (∀ i6 : Nat, r = some i6 → (fisF i6 ∧ (post ((-1)) t5)))))) ∧ (∀ i4 : Nat, r = some i4 → (fisC i4 ∧ (q_X4_fieldAt t3 a2 (fun (r : Option Nat) (t7 : fcS) => (r = none → (post ((-1)) t7)) ∧ (∀ i8 : Nat, r = some i8 → (fisF i8 ∧ (post ((-1)) t7)))))))))) ∧ (∀ i2 : Nat, r = some i2 → (fisC i2 ∧ (q_X4_curveAt t1 a1 (fun (r : Option Nat) (t9 : fcS) => (r = none → (q_X4_fieldAt t9 a2 (fun (r : Option Nat) (t11 : fcS) => (r = none → (post ((-1)) t11)) ∧ (∀ i12 : Nat, r = some i12 → (fisF i12 ∧ (post ((-1)) t11)))))) ∧ (∀ i10 : Nat, r = some i10 → (fisC i10 ∧ (q_X4_fieldAt t9 a2 (fun (r : Option Nat) (t13 : fcS) => (r = none → (post ((-1)) t13)) ∧ (∀ i14 : Nat, r = some i14 → (fisF i14 ∧ (q_X2_signSum t13 i14 ((fgi t13 i2 9)) (fun (r16 : Int32) (t15 : fcS) => q_X2_signSum t15 i14 ((fgi t15 i10 9)) (fun (r18 : Int32) (t17 : fcS) => ∀ x19 : Int32, x19 = (r16 * r18) → (post ((((fgi t17 i14 5) * (fgi t17 i14 5)) + x19)) t17)))))))))))))))
set_option maxHeartbeats 4000000 in
set_option maxRecDepth 100000 in
theorem c_X4_surface (l : Launch) (D : va_G) (adr : Nat → Nat) (cs : Nat → ClassId) {N : Nat} (hN : 53 ≤ N) (t : fcS) (a0 : Int32) (a1 : Int32) (a2 : Int32) (post : Int32 → fcS → Prop) (h : q_X4_surface t a0 a1 a2 post) : Met l yX4_surface wm_X4_surface ({ frames := 5, cells := 0, slots := 0, locals := 123 } : Room) (fcPre D adr cs N t [.ref (adr 0), .int a0, .int a1, .int a2]) (fQi D adr cs N post) 0 0 (faN adr N) := by
  refine f_enter (cc := cX4_surface) (nL := 8) (ret := some .int) (lv := [(0, .ref (adr 0)), (1, .int a0), (2, .int a1), (3, .int a2)]) (own := RX4) (by decide) rfl (Nat.le_of_ble_eq_true rfl) rfl rfl ?_
  intro p e s m below meth c ls C hP hS hl
  have hx := C.1.1
  have hb := C.1.2.1
  unfold q_X4_surface at h
  refine lv_aload_n hx hb dX4_surface_0 rfl (lv_at hl 0 rfl) ?_
  refine lv_iload_n hx hb dX4_surface_1 rfl (lv_at hl 1 rfl) ?_
  refine fr_cq (fr_runV (n := 1) (rest := []) C (c_X4_curveAt l D adr cs hN t a0 _ h) hP hS (by omega) (fG_FC adr cs t) rfl (fgV mw_19_14 mw_19_15 mw_19_16 mw_1_2 mw_19_17) rfl rfl rfl (by decide +kernel) ⟨Nat.le_of_ble_eq_true rfl, Nat.le_of_ble_eq_true rfl⟩ rfl hl.1 rfl (Nat.le_of_ble_eq_true rfl) dX4_surface_2) hS (fun t1 H locs h hP hS => ?_) (fun i2 t1 H locs h hP hS => ?_)
  · replace h := h.1 rfl
    refine lv_astoreN (lv' := [(4, .null), (0, .ref (adr 0)), (1, .int a0), (2, .int a1), (3, .int a2)]) hx hb dX4_surface_5 hl (by decide) rfl (fun ls hl => ?_)
    refine lv_aload_n hx hb dX4_surface_7 rfl (lv_at hl 1 rfl) ?_
    refine lv_iload_n hx hb dX4_surface_8 rfl (lv_at hl 3 rfl) ?_
    refine fr_cq (fr_runV (n := 1) (rest := []) C (c_X4_curveAt l D adr cs hN t1 a1 _ h) hP hS (by omega) (fG_FC adr cs t1) rfl (fgV mw_19_14 mw_19_15 mw_19_16 mw_1_2 mw_19_17) rfl rfl rfl (by decide +kernel) ⟨Nat.le_of_ble_eq_true rfl, Nat.le_of_ble_eq_true rfl⟩ rfl hl.1 rfl (Nat.le_of_ble_eq_true rfl) dX4_surface_9) hS (fun t3 H locs h hP hS => ?_) (fun i4 t3 H locs h hP hS => ?_)
    · replace h := h.1 rfl
      refine lv_astoreN (lv' := [(5, .null), (4, .null), (0, .ref (adr 0)), (1, .int a0), (2, .int a1), (3, .int a2)]) hx hb dX4_surface_12 hl (by decide) rfl (fun ls hl => ?_)
      refine lv_aload_n hx hb dX4_surface_14 rfl (lv_at hl 2 rfl) ?_
      refine lv_iload_n hx hb dX4_surface_15 rfl (lv_at hl 5 rfl) ?_
      refine fr_cq (fr_runV (n := 1) (rest := []) C (c_X4_fieldAt l D adr cs hN t3 a2 _ h) hP hS (by omega) (fG_FC adr cs t3) rfl (fgV mw_4_9 mw_4_10 mw_4_11 mw_1_2 mw_4_12) rfl rfl rfl (by decide +kernel) ⟨Nat.le_of_ble_eq_true rfl, Nat.le_of_ble_eq_true rfl⟩ rfl hl.1 rfl (Nat.le_of_ble_eq_true rfl) dX4_surface_16) hS (fun t5 H locs h hP hS => ?_) (fun i6 t5 H locs h hP hS => ?_)
      · replace h := h.1 rfl
        refine lv_astoreN (lv' := [(6, .null), (5, .null), (4, .null), (0, .ref (adr 0)), (1, .int a0), (2, .int a1), (3, .int a2)]) hx hb dX4_surface_19 hl (by decide) rfl (fun ls hl => ?_)
        refine lv_aloadN hx hb dX4_surface_21 (lv_at hl 2 rfl) ?_
        refine lv_ifnullN (tgt := 36) hx hb dX4_surface_23 (by decide) ?_
        refine lv_iconst (v := (-1)) hx hb dX4_surface_36 (by decide) ?_
        exact fr_iret C hP hS h dX4_surface_37
      · obtain ⟨hi6, h⟩ := h.2 i6 rfl
        refine lv_astore (lv' := [(6, .ref (adr i6)), (5, .null), (4, .null), (0, .ref (adr 0)), (1, .int a0), (2, .int a1), (3, .int a2)]) hx hb dX4_surface_19 hl (by decide) rfl (fun ls hl => ?_)
        refine lv_aloadN hx hb dX4_surface_21 (lv_at hl 2 rfl) ?_
        refine lv_ifnullN (tgt := 36) hx hb dX4_surface_23 (by decide) ?_
        refine lv_iconst (v := (-1)) hx hb dX4_surface_36 (by decide) ?_
        exact fr_iret C hP hS h dX4_surface_37
    · obtain ⟨hi4, h⟩ := h.2 i4 rfl
      refine lv_astore (lv' := [(5, .ref (adr i4)), (4, .null), (0, .ref (adr 0)), (1, .int a0), (2, .int a1), (3, .int a2)]) hx hb dX4_surface_12 hl (by decide) rfl (fun ls hl => ?_)
      refine lv_aload_n hx hb dX4_surface_14 rfl (lv_at hl 2 rfl) ?_
      refine lv_iload_n hx hb dX4_surface_15 rfl (lv_at hl 5 rfl) ?_
      refine fr_cq (fr_runV (n := 1) (rest := []) C (c_X4_fieldAt l D adr cs hN t3 a2 _ h) hP hS (by omega) (fG_FC adr cs t3) rfl (fgV mw_4_9 mw_4_10 mw_4_11 mw_1_2 mw_4_12) rfl rfl rfl (by decide +kernel) ⟨Nat.le_of_ble_eq_true rfl, Nat.le_of_ble_eq_true rfl⟩ rfl hl.1 rfl (Nat.le_of_ble_eq_true rfl) dX4_surface_16) hS (fun t7 H locs h hP hS => ?_) (fun i8 t7 H locs h hP hS => ?_)
      · replace h := h.1 rfl
        refine lv_astoreN (lv' := [(6, .null), (5, .ref (adr i4)), (4, .null), (0, .ref (adr 0)), (1, .int a0), (2, .int a1), (3, .int a2)]) hx hb dX4_surface_19 hl (by decide) rfl (fun ls hl => ?_)
        refine lv_aloadN hx hb dX4_surface_21 (lv_at hl 2 rfl) ?_
        refine lv_ifnullN (tgt := 36) hx hb dX4_surface_23 (by decide) ?_
        refine lv_iconst (v := (-1)) hx hb dX4_surface_36 (by decide) ?_
        exact fr_iret C hP hS h dX4_surface_37
      · obtain ⟨hi8, h⟩ := h.2 i8 rfl
        refine lv_astore (lv' := [(6, .ref (adr i8)), (5, .ref (adr i4)), (4, .null), (0, .ref (adr 0)), (1, .int a0), (2, .int a1), (3, .int a2)]) hx hb dX4_surface_19 hl (by decide) rfl (fun ls hl => ?_)
        refine lv_aloadN hx hb dX4_surface_21 (lv_at hl 2 rfl) ?_
        refine lv_ifnullN (tgt := 36) hx hb dX4_surface_23 (by decide) ?_
        refine lv_iconst (v := (-1)) hx hb dX4_surface_36 (by decide) ?_
        exact fr_iret C hP hS h dX4_surface_37
  · obtain ⟨hi2, h⟩ := h.2 i2 rfl
    refine lv_astore (lv' := [(4, .ref (adr i2)), (0, .ref (adr 0)), (1, .int a0), (2, .int a1), (3, .int a2)]) hx hb dX4_surface_5 hl (by decide) rfl (fun ls hl => ?_)
    refine lv_aload_n hx hb dX4_surface_7 rfl (lv_at hl 1 rfl) ?_
    refine lv_iload_n hx hb dX4_surface_8 rfl (lv_at hl 3 rfl) ?_
    refine fr_cq (fr_runV (n := 1) (rest := []) C (c_X4_curveAt l D adr cs hN t1 a1 _ h) hP hS (by omega) (fG_FC adr cs t1) rfl (fgV mw_19_14 mw_19_15 mw_19_16 mw_1_2 mw_19_17) rfl rfl rfl (by decide +kernel) ⟨Nat.le_of_ble_eq_true rfl, Nat.le_of_ble_eq_true rfl⟩ rfl hl.1 rfl (Nat.le_of_ble_eq_true rfl) dX4_surface_9) hS (fun t9 H locs h hP hS => ?_) (fun i10 t9 H locs h hP hS => ?_)
    · replace h := h.1 rfl
      refine lv_astoreN (lv' := [(5, .null), (4, .ref (adr i2)), (0, .ref (adr 0)), (1, .int a0), (2, .int a1), (3, .int a2)]) hx hb dX4_surface_12 hl (by decide) rfl (fun ls hl => ?_)
      refine lv_aload_n hx hb dX4_surface_14 rfl (lv_at hl 2 rfl) ?_
      refine lv_iload_n hx hb dX4_surface_15 rfl (lv_at hl 5 rfl) ?_
      refine fr_cq (fr_runV (n := 1) (rest := []) C (c_X4_fieldAt l D adr cs hN t9 a2 _ h) hP hS (by omega) (fG_FC adr cs t9) rfl (fgV mw_4_9 mw_4_10 mw_4_11 mw_1_2 mw_4_12) rfl rfl rfl (by decide +kernel) ⟨Nat.le_of_ble_eq_true rfl, Nat.le_of_ble_eq_true rfl⟩ rfl hl.1 rfl (Nat.le_of_ble_eq_true rfl) dX4_surface_16) hS (fun t11 H locs h hP hS => ?_) (fun i12 t11 H locs h hP hS => ?_)
      · replace h := h.1 rfl
        refine lv_astoreN (lv' := [(6, .null), (5, .null), (4, .ref (adr i2)), (0, .ref (adr 0)), (1, .int a0), (2, .int a1), (3, .int a2)]) hx hb dX4_surface_19 hl (by decide) rfl (fun ls hl => ?_)
        refine lv_aload hx hb dX4_surface_21 (lv_at hl 2 rfl) ?_
        refine lv_ifnull hx hb dX4_surface_23 ?_
        refine lv_aloadN hx hb dX4_surface_26 (lv_at hl 1 rfl) ?_
        refine lv_ifnullN (tgt := 36) hx hb dX4_surface_28 (by decide) ?_
        refine lv_iconst (v := (-1)) hx hb dX4_surface_36 (by decide) ?_
        exact fr_iret C hP hS h dX4_surface_37
      · obtain ⟨hi12, h⟩ := h.2 i12 rfl
        refine lv_astore (lv' := [(6, .ref (adr i12)), (5, .null), (4, .ref (adr i2)), (0, .ref (adr 0)), (1, .int a0), (2, .int a1), (3, .int a2)]) hx hb dX4_surface_19 hl (by decide) rfl (fun ls hl => ?_)
        refine lv_aload hx hb dX4_surface_21 (lv_at hl 2 rfl) ?_
        refine lv_ifnull hx hb dX4_surface_23 ?_
        refine lv_aloadN hx hb dX4_surface_26 (lv_at hl 1 rfl) ?_
        refine lv_ifnullN (tgt := 36) hx hb dX4_surface_28 (by decide) ?_
        refine lv_iconst (v := (-1)) hx hb dX4_surface_36 (by decide) ?_
        exact fr_iret C hP hS h dX4_surface_37
    · obtain ⟨hi10, h⟩ := h.2 i10 rfl
      refine lv_astore (lv' := [(5, .ref (adr i10)), (4, .ref (adr i2)), (0, .ref (adr 0)), (1, .int a0), (2, .int a1), (3, .int a2)]) hx hb dX4_surface_12 hl (by decide) rfl (fun ls hl => ?_)
      refine lv_aload_n hx hb dX4_surface_14 rfl (lv_at hl 2 rfl) ?_
      refine lv_iload_n hx hb dX4_surface_15 rfl (lv_at hl 5 rfl) ?_
      refine fr_cq (fr_runV (n := 1) (rest := []) C (c_X4_fieldAt l D adr cs hN t9 a2 _ h) hP hS (by omega) (fG_FC adr cs t9) rfl (fgV mw_4_9 mw_4_10 mw_4_11 mw_1_2 mw_4_12) rfl rfl rfl (by decide +kernel) ⟨Nat.le_of_ble_eq_true rfl, Nat.le_of_ble_eq_true rfl⟩ rfl hl.1 rfl (Nat.le_of_ble_eq_true rfl) dX4_surface_16) hS (fun t13 H locs h hP hS => ?_) (fun i14 t13 H locs h hP hS => ?_)
      · replace h := h.1 rfl
        refine lv_astoreN (lv' := [(6, .null), (5, .ref (adr i10)), (4, .ref (adr i2)), (0, .ref (adr 0)), (1, .int a0), (2, .int a1), (3, .int a2)]) hx hb dX4_surface_19 hl (by decide) rfl (fun ls hl => ?_)
        refine lv_aload hx hb dX4_surface_21 (lv_at hl 2 rfl) ?_
        refine lv_ifnull hx hb dX4_surface_23 ?_
        refine lv_aload hx hb dX4_surface_26 (lv_at hl 1 rfl) ?_
        refine lv_ifnull hx hb dX4_surface_28 ?_
        refine lv_aloadN hx hb dX4_surface_31 (lv_at hl 0 rfl) ?_
        refine lv_ifnonnullN hx hb dX4_surface_33 ?_
        refine lv_iconst (v := (-1)) hx hb dX4_surface_36 (by decide) ?_
        exact fr_iret C hP hS h dX4_surface_37
      · obtain ⟨hi14, h⟩ := h.2 i14 rfl
        refine lv_astore (lv' := [(6, .ref (adr i14)), (5, .ref (adr i10)), (4, .ref (adr i2)), (0, .ref (adr 0)), (1, .int a0), (2, .int a1), (3, .int a2)]) hx hb dX4_surface_19 hl (by decide) rfl (fun ls hl => ?_)
        refine lv_aload hx hb dX4_surface_21 (lv_at hl 2 rfl) ?_
        refine lv_ifnull hx hb dX4_surface_23 ?_
        refine lv_aload hx hb dX4_surface_26 (lv_at hl 1 rfl) ?_
        refine lv_ifnull hx hb dX4_surface_28 ?_
        refine lv_aload hx hb dX4_surface_31 (lv_at hl 0 rfl) ?_
        refine lv_ifnonnull (tgt := 38) hx hb dX4_surface_33 (by decide) ?_
        refine lv_aload hx hb dX4_surface_38 (lv_at hl 0 rfl) ?_
        refine lv_aload hx hb dX4_surface_40 (lv_at hl 2 rfl) ?_
        refine fr_getN (j := 9) C hP (by have := hi2.2.1; omega) (fG_CU adr cs t13 hi2) rfl (fun w h => List.mem_cons_of_mem _ (inl_X1 w h)) (by decide) rfl (by decide +kernel) rfl dX4_surface_42 ?_
        refine fr_ci (fr_runV (n := 1) (rest := []) C (c_X2_signSum l D adr cs hN t13 i14 hi14 ((fgi t13 i2 9)) _ h) hP hS (by have := hi14.2.1; omega) (fG_FI adr cs t13 hi14) rfl (fgV mw_25_18 mw_22_1 mw_22_2 mw_2_2 mw_22_3) rfl rfl rfl (by decide +kernel) ⟨Nat.le_of_ble_eq_true rfl, Nat.le_of_ble_eq_true rfl⟩ rfl hl.1 rfl (Nat.le_of_ble_eq_true rfl) dX4_surface_45) hS (fun r16 t15 H locs h hP hS => ?_)
        refine lv_aload hx hb dX4_surface_48 (lv_at hl 0 rfl) ?_
        refine lv_aload hx hb dX4_surface_50 (lv_at hl 1 rfl) ?_
        refine fr_getN (j := 9) C hP (by have := hi10.2.1; omega) (fG_CU adr cs t15 hi10) rfl (fun w h => List.mem_cons_of_mem _ (inl_X1 w h)) (by decide) rfl (by decide +kernel) rfl dX4_surface_52 ?_
        refine fr_ci (fr_runV (n := 1) (rest := [.int r16]) C (c_X2_signSum l D adr cs hN t15 i14 hi14 ((fgi t15 i10 9)) _ h) hP hS (by have := hi14.2.1; omega) (fG_FI adr cs t15 hi14) rfl (fgV mw_25_18 mw_22_1 mw_22_2 mw_2_2 mw_22_3) rfl rfl rfl (by decide +kernel) ⟨Nat.le_of_ble_eq_true rfl, Nat.le_of_ble_eq_true rfl⟩ rfl hl.1 rfl (Nat.le_of_ble_eq_true rfl) dX4_surface_55) hS (fun r18 t17 H locs h hP hS => ?_)
        refine lv_imul hx hb dX4_surface_58 ?_
        refine lv_topi (fun x19 ex19 => ?_)
        replace h := h x19 ex19
        refine lv_istore (lv' := [(7, .int x19), (6, .ref (adr i14)), (5, .ref (adr i10)), (4, .ref (adr i2)), (0, .ref (adr 0)), (1, .int a0), (2, .int a1), (3, .int a2)]) hx hb dX4_surface_59 hl (by decide) rfl (fun ls hl => ?_)
        refine lv_aload hx hb dX4_surface_61 (lv_at hl 1 rfl) ?_
        refine fr_getN (j := 5) C hP (by have := hi14.2.1; omega) (fG_FI adr cs t17 hi14) rfl (fun w h => List.mem_cons_of_mem _ (inl_X2 w h)) (by decide) rfl (by decide +kernel) rfl dX4_surface_63 ?_
        refine lv_aload hx hb dX4_surface_66 (lv_at hl 1 rfl) ?_
        refine fr_getN (j := 5) C hP (by have := hi14.2.1; omega) (fG_FI adr cs t17 hi14) rfl (fun w h => List.mem_cons_of_mem _ (inl_X2 w h)) (by decide) rfl (by decide +kernel) rfl dX4_surface_68 ?_
        refine lv_imul hx hb dX4_surface_71 ?_
        refine lv_iload hx hb dX4_surface_72 (lv_at hl 0 rfl) ?_
        refine lv_iadd hx hb dX4_surface_74 ?_
        exact fr_iret C hP hS h dX4_surface_75

/-! X4.best -/
abbrev wm_X4_best : List Cond := Cond.code yX4_best cX4_best 11 (some .int) :: wsL_law
def q_X4_best_89 (i2 : Nat) (post : Int32 → fcS → Prop) : Nat → Int32 → Int32 → Int32 → Int32 → fcS → Prop
  | 0, _, _, _, _, _ => False
  | n + 1, v6, v7, v8, v9, t => (v6 ≤ v9 → (post v7 t)) ∧ (¬ v6 ≤ v9 → (q_X3_knotOf t v9 (fun (r10 : Int32) (t9 : fcS) => q_X3_degree t9 r10 (fun (r12 : Int32) (t11 : fcS) => (¬ r12 = 0 → (∀ x13 : Int32, x13 = v9 + 1 → (q_X4_best_89 i2 post n v6 v7 v8 x13 t11))) ∧ (r12 = 0 → (q_X2_pointsOf t11 i2 v9 (fun (r15 : Int32) (t14 : fcS) => (r15 ≤ v8 → (∀ x16 : Int32, x16 = v9 + 1 → (q_X4_best_89 i2 post n v6 v7 v8 x16 t14))) ∧ (¬ r15 ≤ v8 → (∀ x17 : Int32, x17 = v9 + 1 → (q_X4_best_89 i2 post n v6 v9 r15 x17 t14))))))))))
def q_X4_best (t : fcS) (a0 : Int32) (a1 : Int32) (a2 : Int32) (post : Int32 → fcS → Prop) : Prop := q_X4_fieldAt t 1 (fun (r : Option Nat) (t1 : fcS) => (r = none → (post ((-1)) t1)) ∧ (∀ i2 : Nat, r = some i2 → (fisF i2 ∧ ((a0 < 3 → (post ((-1)) t1)) ∧ (¬ a0 < 3 → ((6 < a0 → (post ((-1)) t1)) ∧ (¬ 6 < a0 → ((a1 < 0 → (post ((-1)) t1)) ∧ (¬ a1 < 0 → ((1000000 < a1 → (post ((-1)) t1)) ∧ (¬ 1000000 < a1 → ((a2 < 1 → (post ((-1)) t1)) ∧ (¬ a2 < 1 → ((a2 ≤ 100 → (q_X3_place t1 a0 (fun (r4 : Int32) (t3 : fcS) => ∀ x5 : Int32, x5 = (if a1 < r4 then r4 else a1) → (q_X3_place t3 ((a0 + 1)) (fun (r7 : Int32) (t6 : fcS) => ∀ x8 : Int32, x8 = (if r7 < (a1 + a2) then r7 else (a1 + a2)) → (∃ n0, q_X4_best_89 i2 post n0 x8 ((-9)) ((-1)) x5 t6)))))) ∧ (¬ a2 ≤ 100 → (post ((-1)) t1))))))))))))))))
set_option maxHeartbeats 4000000 in
set_option maxRecDepth 100000 in
theorem k_X4_best_89 {D : va_G} {adr : Nat → Nat} {cs : Nat → ClassId} {N : Nat} (hN : 53 ≤ N) {p : Program} {l : Launch} {e : Env} {s : State} {m : MethodId} {args : Array Value} {below : List Frame} {meth : Method} {c : Code} (C : fCx D adr cs N p s m args meth c cX4_best 11 (some .int) RX4 wm_X4_best) (i2 : Nat) (hi2 : fisF i2) {post : Int32 → fcS → Prop} : ∀ (n : Nat) (v6 : Int32) (v7 : Int32) (v8 : Int32) (v9 : Int32) (t : fcS) (H : Heap) (locs : List Loc) (ls : Array Slot), q_X4_best_89 i2 post n v6 v7 v8 v9 t → va_P D vwCl (fwl adr N (fG adr cs t)) H → va_S (faN adr N) s.heap H locs → lv_has ls 11 [(0, .ref (adr 0)), (4, .ref (adr i2)), (6, .int v6), (7, .int v7), (8, .int v8), (9, .int v9)] → W p l e ({ frames := 5, cells := 0, slots := 0, locals := 123 } : Room) s m args below meth c H locs 0 0 (MQ below (fQi D adr cs N post) args s 0 0 (faN adr N)) (F0 m 89 ls []) := by
  have hx := C.1.1
  have hb := C.1.2.1
  intro n
  induction n with
  | zero => intro v6 v7 v8 v9 t H locs ls h; exact False.elim h
  | succ n ih =>
    intro v6 v7 v8 v9 t H locs ls h hP hS hl
    unfold q_X4_best_89 at h
    refine lv_iload hx hb dX4_best_89 (lv_at hl 5 rfl) ?_
    refine lv_iload hx hb dX4_best_91 (lv_at hl 2 rfl) ?_
    refine lv_icmp_ge (tgt := 145) hx hb dX4_best_93 (by decide) (fun c9 => ?_) (fun c9 => ?_)
    · replace h := h.1 c9
      refine lv_iload hx hb dX4_best_145 (lv_at hl 3 rfl) ?_
      exact fr_iret C hP hS h dX4_best_147
    · replace h := h.2 c9
      refine lv_aload_n hx hb dX4_best_96 rfl (lv_at hl 0 rfl) ?_
      refine fr_get (j := 0) C hP (by omega) (fG_FC adr cs t) rfl (fun w h => List.mem_cons_of_mem _ (inl_X4 w h)) (by decide) rfl (List.mem_cons_of_mem _ mw_1_15) rfl dX4_best_97 ?_
      refine lv_aload_n hx hb dX4_best_100 rfl (lv_at hl 0 rfl) ?_
      refine fr_get (j := 0) C hP (by omega) (fG_FC adr cs t) rfl (fun w h => List.mem_cons_of_mem _ (inl_X4 w h)) (by decide) rfl (List.mem_cons_of_mem _ mw_1_15) rfl dX4_best_101 ?_
      refine lv_iload hx hb dX4_best_104 (lv_at hl 5 rfl) ?_
      refine fr_ci (fr_runV (n := 1) (rest := [.ref (adr 1)]) C (c_X3_knotOf l D adr cs hN t v9 _ h) hP hS (by omega) (fG_PO adr cs t) rfl (fgV mw_16_4 mw_16_5 mw_16_6 mw_1_14 mw_16_7) rfl rfl rfl (by decide +kernel) ⟨Nat.le_of_ble_eq_true rfl, Nat.le_of_ble_eq_true rfl⟩ rfl hl.1 rfl (Nat.le_of_ble_eq_true rfl) dX4_best_106) hS (fun r10 t9 H locs h hP hS => ?_)
      refine fr_ci (fr_runV (n := 1) (rest := []) C (c_X3_degree l D adr cs hN t9 r10 _ h) hP hS (by omega) (fG_PO adr cs t9) rfl (fgV mw_16_20 mw_5_5 mw_5_6 mw_1_14 mw_5_7) rfl rfl rfl (by decide +kernel) ⟨Nat.le_of_ble_eq_true rfl, Nat.le_of_ble_eq_true rfl⟩ rfl hl.1 rfl (Nat.le_of_ble_eq_true rfl) dX4_best_109) hS (fun r12 t11 H locs h hP hS => ?_)
      refine lv_if_ne (tgt := 139) hx hb dX4_best_112 (by decide) (fun c9 => ?_) (fun c9 => ?_)
      · replace h := h.1 c9
        obtain ⟨x13, ex13⟩ : ∃ y : Int32, y = v9 + 1 := ⟨_, rfl⟩
        replace h := h x13 ex13
        refine lv_iinc (v := x13) (lv' := [(9, .int x13), (0, .ref (adr 0)), (4, .ref (adr i2)), (6, .int v6), (7, .int v7), (8, .int v8)]) hx hb dX4_best_139 hl (k := 5) rfl (by rw [ex13]; rfl) (by decide) rfl (fun ls hl => ?_)
        refine lv_goto (tgt := 89) hx hb dX4_best_142 (by decide) ?_
        exact ih v6 v7 v8 x13 t11 _ _ _ h hP hS (lv_sub hl [1, 2, 3, 4, 5, 0] rfl)
      · replace h := h.2 c9
        refine lv_aload hx hb dX4_best_115 (lv_at hl 1 rfl) ?_
        refine lv_iload hx hb dX4_best_117 (lv_at hl 5 rfl) ?_
        refine fr_ci (fr_runV (n := 1) (rest := []) C (c_X2_pointsOf l D adr cs hN t11 i2 hi2 v9 _ h) hP hS (by have := hi2.2.1; omega) (fG_FI adr cs t11 hi2) rfl (fgV mw_21_20 mw_21_21 mw_21_22 mw_2_2 mw_21_23) rfl rfl rfl (by decide +kernel) ⟨Nat.le_of_ble_eq_true rfl, Nat.le_of_ble_eq_true rfl⟩ rfl hl.1 rfl (Nat.le_of_ble_eq_true rfl) dX4_best_119) hS (fun r15 t14 H locs h hP hS => ?_)
        refine lv_istore (lv' := [(10, .int r15), (0, .ref (adr 0)), (4, .ref (adr i2)), (6, .int v6), (7, .int v7), (8, .int v8), (9, .int v9)]) hx hb dX4_best_122 hl (by decide) rfl (fun ls hl => ?_)
        refine lv_iload hx hb dX4_best_124 (lv_at hl 0 rfl) ?_
        refine lv_iload hx hb dX4_best_126 (lv_at hl 5 rfl) ?_
        refine lv_icmp_le (tgt := 139) hx hb dX4_best_128 (by decide) (fun c9 => ?_) (fun c9 => ?_)
        · replace h := h.1 c9
          obtain ⟨x16, ex16⟩ : ∃ y : Int32, y = v9 + 1 := ⟨_, rfl⟩
          replace h := h x16 ex16
          refine lv_iinc (v := x16) (lv' := [(9, .int x16), (10, .int r15), (0, .ref (adr 0)), (4, .ref (adr i2)), (6, .int v6), (7, .int v7), (8, .int v8)]) hx hb dX4_best_139 hl (k := 6) rfl (by rw [ex16]; rfl) (by decide) rfl (fun ls hl => ?_)
          refine lv_goto (tgt := 89) hx hb dX4_best_142 (by decide) ?_
          exact ih v6 v7 v8 x16 t14 _ _ _ h hP hS (lv_sub hl [2, 3, 4, 5, 6, 0] rfl)
        · replace h := h.2 c9
          refine lv_iload hx hb dX4_best_131 (lv_at hl 0 rfl) ?_
          refine lv_istore (lv' := [(8, .int r15), (10, .int r15), (0, .ref (adr 0)), (4, .ref (adr i2)), (6, .int v6), (7, .int v7), (9, .int v9)]) hx hb dX4_best_133 hl (by decide) rfl (fun ls hl => ?_)
          refine lv_iload hx hb dX4_best_135 (lv_at hl 6 rfl) ?_
          refine lv_istore (lv' := [(7, .int v9), (8, .int r15), (10, .int r15), (0, .ref (adr 0)), (4, .ref (adr i2)), (6, .int v6), (9, .int v9)]) hx hb dX4_best_137 hl (by decide) rfl (fun ls hl => ?_)
          obtain ⟨x17, ex17⟩ : ∃ y : Int32, y = v9 + 1 := ⟨_, rfl⟩
          replace h := h x17 ex17
          refine lv_iinc (v := x17) (lv' := [(9, .int x17), (7, .int v9), (8, .int r15), (10, .int r15), (0, .ref (adr 0)), (4, .ref (adr i2)), (6, .int v6)]) hx hb dX4_best_139 hl (k := 6) rfl (by rw [ex17]; rfl) (by decide) rfl (fun ls hl => ?_)
          refine lv_goto (tgt := 89) hx hb dX4_best_142 (by decide) ?_
          exact ih v6 v9 r15 x17 t14 _ _ _ h hP hS (lv_sub hl [4, 5, 6, 1, 2, 0] rfl)

set_option maxHeartbeats 4000000 in
set_option maxRecDepth 100000 in
theorem c_X4_best (l : Launch) (D : va_G) (adr : Nat → Nat) (cs : Nat → ClassId) {N : Nat} (hN : 53 ≤ N) (t : fcS) (a0 : Int32) (a1 : Int32) (a2 : Int32) (post : Int32 → fcS → Prop) (h : q_X4_best t a0 a1 a2 post) : Met l yX4_best wm_X4_best ({ frames := 5, cells := 0, slots := 0, locals := 123 } : Room) (fcPre D adr cs N t [.ref (adr 0), .int a0, .int a1, .int a2]) (fQi D adr cs N post) 0 0 (faN adr N) := by
  refine f_enter (cc := cX4_best) (nL := 11) (ret := some .int) (lv := [(0, .ref (adr 0)), (1, .int a0), (2, .int a1), (3, .int a2)]) (own := RX4) (by decide) rfl (Nat.le_of_ble_eq_true rfl) rfl rfl ?_
  intro p e s m below meth c ls C hP hS hl
  have hx := C.1.1
  have hb := C.1.2.1
  unfold q_X4_best at h
  refine lv_aload_n hx hb dX4_best_0 rfl (lv_at hl 0 rfl) ?_
  refine lv_iconst (v := 1) hx hb dX4_best_1 (by decide) ?_
  refine fr_cq (fr_runV (n := 1) (rest := []) C (c_X4_fieldAt l D adr cs hN t 1 _ h) hP hS (by omega) (fG_FC adr cs t) rfl (fgV mw_4_9 mw_4_10 mw_4_11 mw_1_2 mw_4_12) rfl rfl rfl (by decide +kernel) ⟨Nat.le_of_ble_eq_true rfl, Nat.le_of_ble_eq_true rfl⟩ rfl hl.1 rfl (Nat.le_of_ble_eq_true rfl) dX4_best_2) hS (fun t1 H locs h hP hS => ?_) (fun i2 t1 H locs h hP hS => ?_)
  · replace h := h.1 rfl
    refine lv_astoreN (lv' := [(4, .null), (0, .ref (adr 0)), (1, .int a0), (2, .int a1), (3, .int a2)]) hx hb dX4_best_5 hl (by decide) rfl (fun ls hl => ?_)
    refine lv_aloadN hx hb dX4_best_7 (lv_at hl 0 rfl) ?_
    refine lv_ifnullN (tgt := 44) hx hb dX4_best_9 (by decide) ?_
    refine lv_iconst (v := (-1)) hx hb dX4_best_44 (by decide) ?_
    exact fr_iret C hP hS h dX4_best_45
  · obtain ⟨hi2, h⟩ := h.2 i2 rfl
    refine lv_astore (lv' := [(4, .ref (adr i2)), (0, .ref (adr 0)), (1, .int a0), (2, .int a1), (3, .int a2)]) hx hb dX4_best_5 hl (by decide) rfl (fun ls hl => ?_)
    refine lv_aload hx hb dX4_best_7 (lv_at hl 0 rfl) ?_
    refine lv_ifnull hx hb dX4_best_9 ?_
    refine lv_iload_n hx hb dX4_best_12 rfl (lv_at hl 2 rfl) ?_
    refine lv_iconst (v := 3) hx hb dX4_best_13 (by decide) ?_
    refine lv_icmp_lt (tgt := 44) hx hb dX4_best_14 (by decide) (fun c9 => ?_) (fun c9 => ?_)
    · replace h := h.1 c9
      refine lv_iconst (v := (-1)) hx hb dX4_best_44 (by decide) ?_
      exact fr_iret C hP hS h dX4_best_45
    · replace h := h.2 c9
      refine lv_iload_n hx hb dX4_best_17 rfl (lv_at hl 2 rfl) ?_
      refine lv_bipush (v := 6) hx hb dX4_best_18 (by decide) ?_
      refine lv_icmp_gt (tgt := 44) hx hb dX4_best_20 (by decide) (fun c9 => ?_) (fun c9 => ?_)
      · replace h := h.1 c9
        refine lv_iconst (v := (-1)) hx hb dX4_best_44 (by decide) ?_
        exact fr_iret C hP hS h dX4_best_45
      · replace h := h.2 c9
        refine lv_iload_n hx hb dX4_best_23 rfl (lv_at hl 3 rfl) ?_
        refine lv_if_lt (tgt := 44) hx hb dX4_best_24 (by decide) (fun c9 => ?_) (fun c9 => ?_)
        · replace h := h.1 c9
          refine lv_iconst (v := (-1)) hx hb dX4_best_44 (by decide) ?_
          exact fr_iret C hP hS h dX4_best_45
        · replace h := h.2 c9
          refine lv_iload_n hx hb dX4_best_27 rfl (lv_at hl 3 rfl) ?_
          refine lv_ldc hx hb (v := 1000000) C.1.2.2.2.1 (C.1.2.2.2.2 _ (List.mem_cons_of_mem _ mw_26_3)) dX4_best_28 ?_
          refine lv_icmp_gt (tgt := 44) hx hb dX4_best_30 (by decide) (fun c9 => ?_) (fun c9 => ?_)
          · replace h := h.1 c9
            refine lv_iconst (v := (-1)) hx hb dX4_best_44 (by decide) ?_
            exact fr_iret C hP hS h dX4_best_45
          · replace h := h.2 c9
            refine lv_iload_n hx hb dX4_best_33 rfl (lv_at hl 4 rfl) ?_
            refine lv_iconst (v := 1) hx hb dX4_best_34 (by decide) ?_
            refine lv_icmp_lt (tgt := 44) hx hb dX4_best_35 (by decide) (fun c9 => ?_) (fun c9 => ?_)
            · replace h := h.1 c9
              refine lv_iconst (v := (-1)) hx hb dX4_best_44 (by decide) ?_
              exact fr_iret C hP hS h dX4_best_45
            · replace h := h.2 c9
              refine lv_iload_n hx hb dX4_best_38 rfl (lv_at hl 4 rfl) ?_
              refine lv_bipush (v := 100) hx hb dX4_best_39 (by decide) ?_
              refine lv_icmp_le (tgt := 46) hx hb dX4_best_41 (by decide) (fun c9 => ?_) (fun c9 => ?_)
              · replace h := h.1 c9
                refine lv_iload_n hx hb dX4_best_46 rfl (lv_at hl 3 rfl) ?_
                refine lv_aload_n hx hb dX4_best_47 rfl (lv_at hl 1 rfl) ?_
                refine fr_get (j := 0) C hP (by omega) (fG_FC adr cs t1) rfl (fun w h => List.mem_cons_of_mem _ (inl_X4 w h)) (by decide) rfl (List.mem_cons_of_mem _ mw_1_15) rfl dX4_best_48 ?_
                refine lv_iload_n hx hb dX4_best_51 rfl (lv_at hl 2 rfl) ?_
                refine fr_ci (fr_runV (n := 1) (rest := [.int a1]) C (c_X3_place l D adr cs hN t1 a0 _ h) hP hS (by omega) (fG_PO adr cs t1) rfl (fgV mw_4_5 mw_4_6 mw_4_7 mw_1_14 mw_4_8) rfl rfl rfl (by decide +kernel) ⟨Nat.le_of_ble_eq_true rfl, Nat.le_of_ble_eq_true rfl⟩ rfl hl.1 rfl (Nat.le_of_ble_eq_true rfl) dX4_best_52) hS (fun r4 t3 H locs h hP hS => ?_)
                refine va_mmax (own := RX4) (index := 180) hx hb (C.1.2.2.1.trans hl.1.symm) C.1.2.2.2.1 (C.1.2.2.2.2 _ (List.mem_cons_of_mem _ mw_26_4)) (C.1.2.2.2.2 _ (List.mem_cons_of_mem _ mw_4_2)) (C.1.2.2.2.2 _ (List.mem_cons_of_mem _ mw_4_3)) (C.1.2.2.2.2 _ (List.mem_cons_of_mem _ mw_4_4)) (Nat.le_of_ble_eq_true rfl) (Nat.le_of_ble_eq_true rfl) (Nat.zero_le _) (Nat.zero_le _) dX4_best_55 ?_
                refine lv_topi (fun x5 ex5 => ?_)
                replace h := h x5 ex5
                refine lv_istore (lv' := [(5, .int x5), (4, .ref (adr i2)), (0, .ref (adr 0)), (1, .int a0), (2, .int a1), (3, .int a2)]) hx hb dX4_best_58 hl (by decide) rfl (fun ls hl => ?_)
                refine lv_iload_n hx hb dX4_best_60 rfl (lv_at hl 4 rfl) ?_
                refine lv_iload_n hx hb dX4_best_61 rfl (lv_at hl 5 rfl) ?_
                refine lv_iadd hx hb dX4_best_62 ?_
                refine lv_aload_n hx hb dX4_best_63 rfl (lv_at hl 2 rfl) ?_
                refine fr_get (j := 0) C hP (by omega) (fG_FC adr cs t3) rfl (fun w h => List.mem_cons_of_mem _ (inl_X4 w h)) (by decide) rfl (List.mem_cons_of_mem _ mw_1_15) rfl dX4_best_64 ?_
                refine lv_iload_n hx hb dX4_best_67 rfl (lv_at hl 3 rfl) ?_
                refine lv_iconst (v := 1) hx hb dX4_best_68 (by decide) ?_
                refine lv_iadd hx hb dX4_best_69 ?_
                refine fr_ci (fr_runV (n := 1) (rest := [.int ((a1 + a2))]) C (c_X3_place l D adr cs hN t3 ((a0 + 1)) _ h) hP hS (by omega) (fG_PO adr cs t3) rfl (fgV mw_4_5 mw_4_6 mw_4_7 mw_1_14 mw_4_8) rfl rfl rfl (by decide +kernel) ⟨Nat.le_of_ble_eq_true rfl, Nat.le_of_ble_eq_true rfl⟩ rfl hl.1 rfl (Nat.le_of_ble_eq_true rfl) dX4_best_70) hS (fun r7 t6 H locs h hP hS => ?_)
                refine va_mmin (own := RX4) (index := 185) hx hb (C.1.2.2.1.trans hl.1.symm) C.1.2.2.2.1 (C.1.2.2.2.2 _ (List.mem_cons_of_mem _ mw_26_5)) (C.1.2.2.2.2 _ (List.mem_cons_of_mem _ mw_26_6)) (C.1.2.2.2.2 _ (List.mem_cons_of_mem _ mw_4_3)) (C.1.2.2.2.2 _ (List.mem_cons_of_mem _ mw_26_7)) (Nat.le_of_ble_eq_true rfl) (Nat.le_of_ble_eq_true rfl) (Nat.zero_le _) (Nat.zero_le _) dX4_best_73 ?_
                refine lv_topi (fun x8 ex8 => ?_)
                replace h := h x8 ex8
                refine lv_istore (lv' := [(6, .int x8), (5, .int x5), (4, .ref (adr i2)), (0, .ref (adr 0)), (1, .int a0), (2, .int a1), (3, .int a2)]) hx hb dX4_best_76 hl (by decide) rfl (fun ls hl => ?_)
                refine lv_bipush (v := (-9)) hx hb dX4_best_78 (by decide) ?_
                refine lv_istore (lv' := [(7, .int ((-9))), (6, .int x8), (5, .int x5), (4, .ref (adr i2)), (0, .ref (adr 0)), (1, .int a0), (2, .int a1), (3, .int a2)]) hx hb dX4_best_80 hl (by decide) rfl (fun ls hl => ?_)
                refine lv_iconst (v := (-1)) hx hb dX4_best_82 (by decide) ?_
                refine lv_istore (lv' := [(8, .int ((-1))), (7, .int ((-9))), (6, .int x8), (5, .int x5), (4, .ref (adr i2)), (0, .ref (adr 0)), (1, .int a0), (2, .int a1), (3, .int a2)]) hx hb dX4_best_83 hl (by decide) rfl (fun ls hl => ?_)
                refine lv_iload hx hb dX4_best_85 (lv_at hl 3 rfl) ?_
                refine lv_istore (lv' := [(9, .int x5), (8, .int ((-1))), (7, .int ((-9))), (6, .int x8), (5, .int x5), (4, .ref (adr i2)), (0, .ref (adr 0)), (1, .int a0), (2, .int a1), (3, .int a2)]) hx hb dX4_best_87 hl (by decide) rfl (fun ls hl => ?_)
                obtain ⟨n9, h⟩ := h
                exact k_X4_best_89 hN C i2 hi2 n9 x8 ((-9)) ((-1)) x5 t6 _ _ _ h hP hS (lv_sub hl [6, 5, 3, 2, 1, 0] rfl)
              · replace h := h.2 c9
                refine lv_iconst (v := (-1)) hx hb dX4_best_44 (by decide) ?_
                exact fr_iret C hP hS h dX4_best_45

/-! X4.listAt -/
abbrev wm_X4_listAt : List Cond := Cond.code yX4_listAt cX4_listAt 3 (some (.object "FieldCounts$ClassList")) :: wsL_law
def q_X4_listAt (t : fcS) (a0 : Int32) (post : Option Nat → fcS → Prop) : Prop := q_X4_curveAt t a0 (fun (r : Option Nat) (t1 : fcS) => (r = none → (post none t1)) ∧ (∀ i2 : Nat, r = some i2 → (fisC i2 ∧ ((¬ (2 : Int32) = 0) ∧ ((¬ (irm ((fgi t1 i2 7)) 2) = 0 → (post (some ((i2 + 2))) t1)) ∧ ((irm ((fgi t1 i2 7)) 2) = 0 → (post none t1)))))))
set_option maxHeartbeats 4000000 in
set_option maxRecDepth 100000 in
theorem c_X4_listAt (l : Launch) (D : va_G) (adr : Nat → Nat) (cs : Nat → ClassId) {N : Nat} (hN : 53 ≤ N) (t : fcS) (a0 : Int32) (post : Option Nat → fcS → Prop) (h : q_X4_listAt t a0 post) : Met l yX4_listAt wm_X4_listAt ({ frames := 1, cells := 0, slots := 0, locals := 21 } : Room) (fcPre D adr cs N t [.ref (adr 0), .int a0]) (fQq D adr cs N post) 0 0 (faN adr N) := by
  refine f_enter (cc := cX4_listAt) (nL := 3) (ret := some (.object "FieldCounts$ClassList")) (lv := [(0, .ref (adr 0)), (1, .int a0)]) (own := RX4) (by decide) rfl (Nat.le_of_ble_eq_true rfl) rfl rfl ?_
  intro p e s m below meth c ls C hP hS hl
  have hx := C.1.1
  have hb := C.1.2.1
  unfold q_X4_listAt at h
  refine lv_aload_n hx hb dX4_listAt_0 rfl (lv_at hl 0 rfl) ?_
  refine lv_iload_n hx hb dX4_listAt_1 rfl (lv_at hl 1 rfl) ?_
  refine fr_cq (fr_runV (n := 1) (rest := []) C (c_X4_curveAt l D adr cs hN t a0 _ h) hP hS (by omega) (fG_FC adr cs t) rfl (fgV mw_19_14 mw_19_15 mw_19_16 mw_1_2 mw_19_17) rfl rfl rfl (by decide +kernel) ⟨Nat.le_of_ble_eq_true rfl, Nat.le_of_ble_eq_true rfl⟩ rfl hl.1 rfl (Nat.le_of_ble_eq_true rfl) dX4_listAt_2) hS (fun t1 H locs h hP hS => ?_) (fun i2 t1 H locs h hP hS => ?_)
  · replace h := h.1 rfl
    refine lv_astore_nN (lv' := [(2, .null), (0, .ref (adr 0)), (1, .int a0)]) hx hb dX4_listAt_5 rfl hl (by decide) rfl (fun ls hl => ?_)
    refine lv_aload_nN hx hb dX4_listAt_6 rfl (lv_at hl 0 rfl) ?_
    refine lv_ifnullN (tgt := 19) hx hb dX4_listAt_7 (by decide) ?_
    refine lv_null hx hb dX4_listAt_19 ?_
    refine lv_goto (tgt := 27) hx hb dX4_listAt_20 (by decide) ?_
    exact fr_aret C none (Or.inl ⟨_, rfl⟩) rfl hP hS h dX4_listAt_27
  · obtain ⟨hi2, h⟩ := h.2 i2 rfl
    refine lv_astore_n (lv' := [(2, .ref (adr i2)), (0, .ref (adr 0)), (1, .int a0)]) hx hb dX4_listAt_5 rfl hl (by decide) rfl (fun ls hl => ?_)
    refine lv_aload_n hx hb dX4_listAt_6 rfl (lv_at hl 0 rfl) ?_
    refine lv_ifnull hx hb dX4_listAt_7 ?_
    refine lv_aload_n hx hb dX4_listAt_10 rfl (lv_at hl 0 rfl) ?_
    refine fr_getN (j := 7) C hP (by have := hi2.2.1; omega) (fG_CU adr cs t1 hi2) rfl (fun w h => List.mem_cons_of_mem _ (inl_X1 w h)) (by decide) rfl (by decide +kernel) rfl dX4_listAt_11 ?_
    refine lv_iconst (v := 2) hx hb dX4_listAt_14 (by decide) ?_
    refine lv_irem hx hb dX4_listAt_15 h.1 ?_
    replace h := h.2
    refine lv_if_ne (tgt := 23) hx hb dX4_listAt_16 (by decide) (fun c9 => ?_) (fun c9 => ?_)
    · replace h := h.1 c9
      refine lv_aload_n hx hb dX4_listAt_23 rfl (lv_at hl 0 rfl) ?_
      refine fr_getN (j := 1) C hP (by have := hi2.2.1; omega) (fG_CU adr cs t1 hi2) rfl (fun w h => List.mem_cons_of_mem _ (inl_X1 w h)) (by decide) rfl (by decide +kernel) rfl dX4_listAt_24 ?_
      exact fr_aret C (some ((i2 + 2))) (Or.inl ⟨_, rfl⟩) rfl hP hS h dX4_listAt_27
    · replace h := h.2 c9
      refine lv_null hx hb dX4_listAt_19 ?_
      refine lv_goto (tgt := 27) hx hb dX4_listAt_20 (by decide) ?_
      exact fr_aret C none (Or.inl ⟨_, rfl⟩) rfl hP hS h dX4_listAt_27

/-! X4.isClass -/
abbrev wm_X4_isClass : List Cond := Cond.code yX4_isClass cX4_isClass 5 (some .int) :: wsL_law
def q_X4_isClass (t : fcS) (a0 : Int32) (a1 : Int32) (a2 : Int32) (post : Int32 → fcS → Prop) : Prop := q_X4_listAt t a0 (fun (r : Option Nat) (t1 : fcS) => (r = none → (post ((-1)) t1)) ∧ (∀ i2 : Nat, r = some i2 → (fisL i2 ∧ ((a1 < 0 → (post ((-1)) t1)) ∧ (¬ a1 < 0 → ((0 ≤ a2 → (q_X0_holds t1 i2 a1 a2 (fun (r4 : Int32) (t3 : fcS) => (r4 = 0 → (post 0 t3)) ∧ (¬ r4 = 0 → (post 1 t3))))) ∧ (¬ 0 ≤ a2 → (post ((-1)) t1))))))))
set_option maxHeartbeats 4000000 in
set_option maxRecDepth 100000 in
theorem c_X4_isClass (l : Launch) (D : va_G) (adr : Nat → Nat) (cs : Nat → ClassId) {N : Nat} (hN : 53 ≤ N) (t : fcS) (a0 : Int32) (a1 : Int32) (a2 : Int32) (post : Int32 → fcS → Prop) (h : q_X4_isClass t a0 a1 a2 post) : Met l yX4_isClass wm_X4_isClass ({ frames := 3, cells := 0, slots := 0, locals := 78 } : Room) (fcPre D adr cs N t [.ref (adr 0), .int a0, .int a1, .int a2]) (fQi D adr cs N post) 0 0 (faN adr N) := by
  refine f_enter (cc := cX4_isClass) (nL := 5) (ret := some .int) (lv := [(0, .ref (adr 0)), (1, .int a0), (2, .int a1), (3, .int a2)]) (own := RX4) (by decide) rfl (Nat.le_of_ble_eq_true rfl) rfl rfl ?_
  intro p e s m below meth c ls C hP hS hl
  have hx := C.1.1
  have hb := C.1.2.1
  unfold q_X4_isClass at h
  refine lv_aload_n hx hb dX4_isClass_0 rfl (lv_at hl 0 rfl) ?_
  refine lv_iload_n hx hb dX4_isClass_1 rfl (lv_at hl 1 rfl) ?_
  refine fr_cq (fr_runV (n := 1) (rest := []) C (c_X4_listAt l D adr cs hN t a0 _ h) hP hS (by omega) (fG_FC adr cs t) rfl (fgV mw_26_20 mw_26_21 mw_26_22 mw_1_2 mw_26_23) rfl rfl rfl (by decide +kernel) ⟨Nat.le_of_ble_eq_true rfl, Nat.le_of_ble_eq_true rfl⟩ rfl hl.1 rfl (Nat.le_of_ble_eq_true rfl) dX4_isClass_2) hS (fun t1 H locs h hP hS => ?_) (fun i2 t1 H locs h hP hS => ?_)
  · replace h := h.1 rfl
    refine lv_astoreN (lv' := [(4, .null), (0, .ref (adr 0)), (1, .int a0), (2, .int a1), (3, .int a2)]) hx hb dX4_isClass_5 hl (by decide) rfl (fun ls hl => ?_)
    refine lv_aloadN hx hb dX4_isClass_7 (lv_at hl 0 rfl) ?_
    refine lv_ifnullN (tgt := 20) hx hb dX4_isClass_9 (by decide) ?_
    refine lv_iconst (v := (-1)) hx hb dX4_isClass_20 (by decide) ?_
    exact fr_iret C hP hS h dX4_isClass_21
  · obtain ⟨hi2, h⟩ := h.2 i2 rfl
    refine lv_astore (lv' := [(4, .ref (adr i2)), (0, .ref (adr 0)), (1, .int a0), (2, .int a1), (3, .int a2)]) hx hb dX4_isClass_5 hl (by decide) rfl (fun ls hl => ?_)
    refine lv_aload hx hb dX4_isClass_7 (lv_at hl 0 rfl) ?_
    refine lv_ifnull hx hb dX4_isClass_9 ?_
    refine lv_iload_n hx hb dX4_isClass_12 rfl (lv_at hl 3 rfl) ?_
    refine lv_if_lt (tgt := 20) hx hb dX4_isClass_13 (by decide) (fun c9 => ?_) (fun c9 => ?_)
    · replace h := h.1 c9
      refine lv_iconst (v := (-1)) hx hb dX4_isClass_20 (by decide) ?_
      exact fr_iret C hP hS h dX4_isClass_21
    · replace h := h.2 c9
      refine lv_iload_n hx hb dX4_isClass_16 rfl (lv_at hl 4 rfl) ?_
      refine lv_if_ge (tgt := 22) hx hb dX4_isClass_17 (by decide) (fun c9 => ?_) (fun c9 => ?_)
      · replace h := h.1 c9
        refine lv_aload hx hb dX4_isClass_22 (lv_at hl 0 rfl) ?_
        refine lv_iload_n hx hb dX4_isClass_24 rfl (lv_at hl 3 rfl) ?_
        refine lv_iload_n hx hb dX4_isClass_25 rfl (lv_at hl 4 rfl) ?_
        refine fr_ci (fr_runV (n := 2) (rest := []) C (c_X0_holds l D adr cs hN t1 i2 hi2 a1 a2 _ h) hP hS (by have := hi2.2.1; omega) (fG_CL adr cs t1 hi2) rfl (fgV mw_27_0 mw_27_1 mw_27_2 mw_3_5 mw_27_3) rfl rfl rfl (by decide +kernel) ⟨Nat.le_of_ble_eq_true rfl, Nat.le_of_ble_eq_true rfl⟩ rfl hl.1 rfl (Nat.le_of_ble_eq_true rfl) dX4_isClass_26) hS (fun r4 t3 H locs h hP hS => ?_)
        refine lv_if_eq (tgt := 36) hx hb dX4_isClass_29 (by decide) (fun c9 => ?_) (fun c9 => ?_)
        · replace h := h.1 c9
          refine lv_iconst (v := 0) hx hb dX4_isClass_36 (by decide) ?_
          exact fr_iret C hP hS h dX4_isClass_37
        · replace h := h.2 c9
          refine lv_iconst (v := 1) hx hb dX4_isClass_32 (by decide) ?_
          refine lv_goto (tgt := 37) hx hb dX4_isClass_33 (by decide) ?_
          exact fr_iret C hP hS h dX4_isClass_37
      · replace h := h.2 c9
        refine lv_iconst (v := (-1)) hx hb dX4_isClass_20 (by decide) ?_
        exact fr_iret C hP hS h dX4_isClass_21

/-! X4.classes -/
abbrev wm_X4_classes : List Cond := Cond.code yX4_classes cX4_classes 3 (some .int) :: wsL_law
def q_X4_classes (t : fcS) (a0 : Int32) (post : Int32 → fcS → Prop) : Prop := q_X4_listAt t a0 (fun (r : Option Nat) (t1 : fcS) => (r = none → (post ((-1)) t1)) ∧ (∀ i2 : Nat, r = some i2 → (fisL i2 ∧ (q_X0_many t1 i2 (fun (r4 : Int32) (t3 : fcS) => post r4 t3)))))
set_option maxHeartbeats 4000000 in
set_option maxRecDepth 100000 in
theorem c_X4_classes (l : Launch) (D : va_G) (adr : Nat → Nat) (cs : Nat → ClassId) {N : Nat} (hN : 53 ≤ N) (t : fcS) (a0 : Int32) (post : Int32 → fcS → Prop) (h : q_X4_classes t a0 post) : Met l yX4_classes wm_X4_classes ({ frames := 5, cells := 0, slots := 0, locals := 121 } : Room) (fcPre D adr cs N t [.ref (adr 0), .int a0]) (fQi D adr cs N post) 0 0 (faN adr N) := by
  refine f_enter (cc := cX4_classes) (nL := 3) (ret := some .int) (lv := [(0, .ref (adr 0)), (1, .int a0)]) (own := RX4) (by decide) rfl (Nat.le_of_ble_eq_true rfl) rfl rfl ?_
  intro p e s m below meth c ls C hP hS hl
  have hx := C.1.1
  have hb := C.1.2.1
  unfold q_X4_classes at h
  refine lv_aload_n hx hb dX4_classes_0 rfl (lv_at hl 0 rfl) ?_
  refine lv_iload_n hx hb dX4_classes_1 rfl (lv_at hl 1 rfl) ?_
  refine fr_cq (fr_runV (n := 1) (rest := []) C (c_X4_listAt l D adr cs hN t a0 _ h) hP hS (by omega) (fG_FC adr cs t) rfl (fgV mw_26_20 mw_26_21 mw_26_22 mw_1_2 mw_26_23) rfl rfl rfl (by decide +kernel) ⟨Nat.le_of_ble_eq_true rfl, Nat.le_of_ble_eq_true rfl⟩ rfl hl.1 rfl (Nat.le_of_ble_eq_true rfl) dX4_classes_2) hS (fun t1 H locs h hP hS => ?_) (fun i2 t1 H locs h hP hS => ?_)
  · replace h := h.1 rfl
    refine lv_astore_nN (lv' := [(2, .null), (0, .ref (adr 0)), (1, .int a0)]) hx hb dX4_classes_5 rfl hl (by decide) rfl (fun ls hl => ?_)
    refine lv_aload_nN hx hb dX4_classes_6 rfl (lv_at hl 0 rfl) ?_
    refine lv_ifnonnullN hx hb dX4_classes_7 ?_
    refine lv_iconst (v := (-1)) hx hb dX4_classes_10 (by decide) ?_
    refine lv_goto (tgt := 18) hx hb dX4_classes_11 (by decide) ?_
    exact fr_iret C hP hS h dX4_classes_18
  · obtain ⟨hi2, h⟩ := h.2 i2 rfl
    refine lv_astore_n (lv' := [(2, .ref (adr i2)), (0, .ref (adr 0)), (1, .int a0)]) hx hb dX4_classes_5 rfl hl (by decide) rfl (fun ls hl => ?_)
    refine lv_aload_n hx hb dX4_classes_6 rfl (lv_at hl 0 rfl) ?_
    refine lv_ifnonnull (tgt := 14) hx hb dX4_classes_7 (by decide) ?_
    refine lv_aload_n hx hb dX4_classes_14 rfl (lv_at hl 0 rfl) ?_
    refine fr_ci (fr_runV (n := 0) (rest := []) C (c_X0_many l D adr cs hN t1 i2 hi2 _ h) hP hS (by have := hi2.2.1; omega) (fG_CL adr cs t1 hi2) rfl (fgV mw_28_6 mw_28_7 mw_28_8 mw_3_5 mw_28_9) rfl rfl rfl (by decide +kernel) ⟨Nat.le_of_ble_eq_true rfl, Nat.le_of_ble_eq_true rfl⟩ rfl hl.1 rfl (Nat.le_of_ble_eq_true rfl) dX4_classes_15) hS (fun r4 t3 H locs h hP hS => ?_)
    exact fr_iret C hP hS h dX4_classes_18

/-! X4.classAt -/
abbrev wm_X4_classAt : List Cond := Cond.code yX4_classAt cX4_classAt 6 (some .int) :: wsL_law
def q_X4_classAt (t : fcS) (a0 : Int32) (a1 : Int32) (a2 : Int32) (post : Int32 → fcS → Prop) : Prop := q_X4_listAt t a0 (fun (r : Option Nat) (t1 : fcS) => (r = none → (post ((-1)) t1)) ∧ (∀ i2 : Nat, r = some i2 → (fisL i2 ∧ ((a1 < 0 → (post ((-1)) t1)) ∧ (¬ a1 < 0 → ((a2 < 0 → (post ((-1)) t1)) ∧ (¬ a2 < 0 → ((a2 ≤ 1 → (q_X0_many t1 i2 (fun (r4 : Int32) (t3 : fcS) => (a1 < r4 → (q_X0_keyAt t3 i2 a1 (fun (r6 : Int32) (t5 : fcS) => (¬ a2 = 0 → (q_X0_vOf t5 i2 r6 (fun (r8 : Int32) (t7 : fcS) => post r8 t7))) ∧ (a2 = 0 → (q_X0_uOf t5 i2 r6 (fun (r10 : Int32) (t9 : fcS) => post r10 t9)))))) ∧ (¬ a1 < r4 → (post ((-9)) t3))))) ∧ (¬ a2 ≤ 1 → (post ((-1)) t1))))))))))
set_option maxHeartbeats 4000000 in
set_option maxRecDepth 100000 in
theorem c_X4_classAt (l : Launch) (D : va_G) (adr : Nat → Nat) (cs : Nat → ClassId) {N : Nat} (hN : 53 ≤ N) (t : fcS) (a0 : Int32) (a1 : Int32) (a2 : Int32) (post : Int32 → fcS → Prop) (h : q_X4_classAt t a0 a1 a2 post) : Met l yX4_classAt wm_X4_classAt ({ frames := 5, cells := 0, slots := 0, locals := 121 } : Room) (fcPre D adr cs N t [.ref (adr 0), .int a0, .int a1, .int a2]) (fQi D adr cs N post) 0 0 (faN adr N) := by
  refine f_enter (cc := cX4_classAt) (nL := 6) (ret := some .int) (lv := [(0, .ref (adr 0)), (1, .int a0), (2, .int a1), (3, .int a2)]) (own := RX4) (by decide) rfl (Nat.le_of_ble_eq_true rfl) rfl rfl ?_
  intro p e s m below meth c ls C hP hS hl
  have hx := C.1.1
  have hb := C.1.2.1
  unfold q_X4_classAt at h
  refine lv_aload_n hx hb dX4_classAt_0 rfl (lv_at hl 0 rfl) ?_
  refine lv_iload_n hx hb dX4_classAt_1 rfl (lv_at hl 1 rfl) ?_
  refine fr_cq (fr_runV (n := 1) (rest := []) C (c_X4_listAt l D adr cs hN t a0 _ h) hP hS (by omega) (fG_FC adr cs t) rfl (fgV mw_26_20 mw_26_21 mw_26_22 mw_1_2 mw_26_23) rfl rfl rfl (by decide +kernel) ⟨Nat.le_of_ble_eq_true rfl, Nat.le_of_ble_eq_true rfl⟩ rfl hl.1 rfl (Nat.le_of_ble_eq_true rfl) dX4_classAt_2) hS (fun t1 H locs h hP hS => ?_) (fun i2 t1 H locs h hP hS => ?_)
  · replace h := h.1 rfl
    refine lv_astoreN (lv' := [(4, .null), (0, .ref (adr 0)), (1, .int a0), (2, .int a1), (3, .int a2)]) hx hb dX4_classAt_5 hl (by decide) rfl (fun ls hl => ?_)
    refine lv_aloadN hx hb dX4_classAt_7 (lv_at hl 0 rfl) ?_
    refine lv_ifnullN (tgt := 25) hx hb dX4_classAt_9 (by decide) ?_
    refine lv_iconst (v := (-1)) hx hb dX4_classAt_25 (by decide) ?_
    exact fr_iret C hP hS h dX4_classAt_26
  · obtain ⟨hi2, h⟩ := h.2 i2 rfl
    refine lv_astore (lv' := [(4, .ref (adr i2)), (0, .ref (adr 0)), (1, .int a0), (2, .int a1), (3, .int a2)]) hx hb dX4_classAt_5 hl (by decide) rfl (fun ls hl => ?_)
    refine lv_aload hx hb dX4_classAt_7 (lv_at hl 0 rfl) ?_
    refine lv_ifnull hx hb dX4_classAt_9 ?_
    refine lv_iload_n hx hb dX4_classAt_12 rfl (lv_at hl 3 rfl) ?_
    refine lv_if_lt (tgt := 25) hx hb dX4_classAt_13 (by decide) (fun c9 => ?_) (fun c9 => ?_)
    · replace h := h.1 c9
      refine lv_iconst (v := (-1)) hx hb dX4_classAt_25 (by decide) ?_
      exact fr_iret C hP hS h dX4_classAt_26
    · replace h := h.2 c9
      refine lv_iload_n hx hb dX4_classAt_16 rfl (lv_at hl 4 rfl) ?_
      refine lv_if_lt (tgt := 25) hx hb dX4_classAt_17 (by decide) (fun c9 => ?_) (fun c9 => ?_)
      · replace h := h.1 c9
        refine lv_iconst (v := (-1)) hx hb dX4_classAt_25 (by decide) ?_
        exact fr_iret C hP hS h dX4_classAt_26
      · replace h := h.2 c9
        refine lv_iload_n hx hb dX4_classAt_20 rfl (lv_at hl 4 rfl) ?_
        refine lv_iconst (v := 1) hx hb dX4_classAt_21 (by decide) ?_
        refine lv_icmp_le (tgt := 27) hx hb dX4_classAt_22 (by decide) (fun c9 => ?_) (fun c9 => ?_)
        · replace h := h.1 c9
          refine lv_iload_n hx hb dX4_classAt_27 rfl (lv_at hl 3 rfl) ?_
          refine lv_aload hx hb dX4_classAt_28 (lv_at hl 0 rfl) ?_
          refine fr_ci (fr_runV (n := 0) (rest := [.int a1]) C (c_X0_many l D adr cs hN t1 i2 hi2 _ h) hP hS (by have := hi2.2.1; omega) (fG_CL adr cs t1 hi2) rfl (fgV mw_28_6 mw_28_7 mw_28_8 mw_3_5 mw_28_9) rfl rfl rfl (by decide +kernel) ⟨Nat.le_of_ble_eq_true rfl, Nat.le_of_ble_eq_true rfl⟩ rfl hl.1 rfl (Nat.le_of_ble_eq_true rfl) dX4_classAt_30) hS (fun r4 t3 H locs h hP hS => ?_)
          refine lv_icmp_lt (tgt := 39) hx hb dX4_classAt_33 (by decide) (fun c9 => ?_) (fun c9 => ?_)
          · replace h := h.1 c9
            refine lv_aload hx hb dX4_classAt_39 (lv_at hl 0 rfl) ?_
            refine lv_iload_n hx hb dX4_classAt_41 rfl (lv_at hl 3 rfl) ?_
            refine fr_ci (fr_runV (n := 1) (rest := []) C (c_X0_keyAt l D adr cs hN t3 i2 hi2 a1 _ h) hP hS (by have := hi2.2.1; omega) (fG_CL adr cs t3 hi2) rfl (fgV mw_29_15 mw_29_16 mw_29_17 mw_3_5 mw_29_18) rfl rfl rfl (by decide +kernel) ⟨Nat.le_of_ble_eq_true rfl, Nat.le_of_ble_eq_true rfl⟩ rfl hl.1 rfl (Nat.le_of_ble_eq_true rfl) dX4_classAt_42) hS (fun r6 t5 H locs h hP hS => ?_)
            refine lv_istore (lv' := [(5, .int r6), (4, .ref (adr i2)), (0, .ref (adr 0)), (1, .int a0), (2, .int a1), (3, .int a2)]) hx hb dX4_classAt_45 hl (by decide) rfl (fun ls hl => ?_)
            refine lv_iload_n hx hb dX4_classAt_47 rfl (lv_at hl 5 rfl) ?_
            refine lv_if_ne (tgt := 61) hx hb dX4_classAt_48 (by decide) (fun c9 => ?_) (fun c9 => ?_)
            · replace h := h.1 c9
              refine lv_aload hx hb dX4_classAt_61 (lv_at hl 1 rfl) ?_
              refine lv_iload hx hb dX4_classAt_63 (lv_at hl 0 rfl) ?_
              refine fr_ci (fr_runV (n := 1) (rest := []) C (c_X0_vOf l D adr cs hN t5 i2 hi2 r6 _ h) hP hS (by have := hi2.2.1; omega) (fG_CL adr cs t5 hi2) rfl (fgV mw_29_23 mw_30_0 mw_30_1 mw_3_5 mw_30_2) rfl rfl rfl (by decide +kernel) ⟨Nat.le_of_ble_eq_true rfl, Nat.le_of_ble_eq_true rfl⟩ rfl hl.1 rfl (Nat.le_of_ble_eq_true rfl) dX4_classAt_65) hS (fun r8 t7 H locs h hP hS => ?_)
              exact fr_iret C hP hS h dX4_classAt_68
            · replace h := h.2 c9
              refine lv_aload hx hb dX4_classAt_51 (lv_at hl 1 rfl) ?_
              refine lv_iload hx hb dX4_classAt_53 (lv_at hl 0 rfl) ?_
              refine fr_ci (fr_runV (n := 1) (rest := []) C (c_X0_uOf l D adr cs hN t5 i2 hi2 r6 _ h) hP hS (by have := hi2.2.1; omega) (fG_CL adr cs t5 hi2) rfl (fgV mw_29_19 mw_29_20 mw_29_21 mw_3_5 mw_29_22) rfl rfl rfl (by decide +kernel) ⟨Nat.le_of_ble_eq_true rfl, Nat.le_of_ble_eq_true rfl⟩ rfl hl.1 rfl (Nat.le_of_ble_eq_true rfl) dX4_classAt_55) hS (fun r10 t9 H locs h hP hS => ?_)
              refine lv_goto (tgt := 68) hx hb dX4_classAt_58 (by decide) ?_
              exact fr_iret C hP hS h dX4_classAt_68
          · replace h := h.2 c9
            refine lv_bipush (v := (-9)) hx hb dX4_classAt_36 (by decide) ?_
            exact fr_iret C hP hS h dX4_classAt_38
        · replace h := h.2 c9
          refine lv_iconst (v := (-1)) hx hb dX4_classAt_25 (by decide) ?_
          exact fr_iret C hP hS h dX4_classAt_26

/-! X4.add -/
abbrev wm_X4_add : List Cond := Cond.code yX4_add cX4_add 5 (some .int) :: wsL_law
def q_X4_add (t : fcS) (a0 : Int32) (a1 : Int32) (a2 : Int32) (post : Int32 → fcS → Prop) : Prop := q_X4_listAt t a0 (fun (r : Option Nat) (t1 : fcS) => (r = none → (post ((-1)) t1)) ∧ (∀ i2 : Nat, r = some i2 → (fisL i2 ∧ (q_X0_reaches t1 i2 a1 (fun (r4 : Int32) (t3 : fcS) => (r4 = 0 → (post ((-1)) t3)) ∧ (¬ r4 = 0 → (q_X0_reaches t3 i2 a2 (fun (r6 : Int32) (t5 : fcS) => (¬ r6 = 0 → (q_X0_keyAt t5 i2 a1 (fun (r8 : Int32) (t7 : fcS) => q_X0_keyAt t7 i2 a2 (fun (r10 : Int32) (t9 : fcS) => q_X0_sumOf t9 i2 r8 r10 (fun (r12 : Int32) (t11 : fcS) => q_X0_placeOf t11 i2 r12 (fun (r14 : Int32) (t13 : fcS) => post r14 t13)))))) ∧ (r6 = 0 → (post ((-1)) t5))))))))))
set_option maxHeartbeats 4000000 in
set_option maxRecDepth 100000 in
theorem c_X4_add (l : Launch) (D : va_G) (adr : Nat → Nat) (cs : Nat → ClassId) {N : Nat} (hN : 53 ≤ N) (t : fcS) (a0 : Int32) (a1 : Int32) (a2 : Int32) (post : Int32 → fcS → Prop) (h : q_X4_add t a0 a1 a2 post) : Met l yX4_add wm_X4_add ({ frames := 6, cells := 0, slots := 0, locals := 142 } : Room) (fcPre D adr cs N t [.ref (adr 0), .int a0, .int a1, .int a2]) (fQi D adr cs N post) 0 0 (faN adr N) := by
  refine f_enter (cc := cX4_add) (nL := 5) (ret := some .int) (lv := [(0, .ref (adr 0)), (1, .int a0), (2, .int a1), (3, .int a2)]) (own := RX4) (by decide) rfl (Nat.le_of_ble_eq_true rfl) rfl rfl ?_
  intro p e s m below meth c ls C hP hS hl
  have hx := C.1.1
  have hb := C.1.2.1
  unfold q_X4_add at h
  refine lv_aload_n hx hb dX4_add_0 rfl (lv_at hl 0 rfl) ?_
  refine lv_iload_n hx hb dX4_add_1 rfl (lv_at hl 1 rfl) ?_
  refine fr_cq (fr_runV (n := 1) (rest := []) C (c_X4_listAt l D adr cs hN t a0 _ h) hP hS (by omega) (fG_FC adr cs t) rfl (fgV mw_26_20 mw_26_21 mw_26_22 mw_1_2 mw_26_23) rfl rfl rfl (by decide +kernel) ⟨Nat.le_of_ble_eq_true rfl, Nat.le_of_ble_eq_true rfl⟩ rfl hl.1 rfl (Nat.le_of_ble_eq_true rfl) dX4_add_2) hS (fun t1 H locs h hP hS => ?_) (fun i2 t1 H locs h hP hS => ?_)
  · replace h := h.1 rfl
    refine lv_astoreN (lv' := [(4, .null), (0, .ref (adr 0)), (1, .int a0), (2, .int a1), (3, .int a2)]) hx hb dX4_add_5 hl (by decide) rfl (fun ls hl => ?_)
    refine lv_aloadN hx hb dX4_add_7 (lv_at hl 0 rfl) ?_
    refine lv_ifnullN (tgt := 30) hx hb dX4_add_9 (by decide) ?_
    refine lv_iconst (v := (-1)) hx hb dX4_add_30 (by decide) ?_
    exact fr_iret C hP hS h dX4_add_31
  · obtain ⟨hi2, h⟩ := h.2 i2 rfl
    refine lv_astore (lv' := [(4, .ref (adr i2)), (0, .ref (adr 0)), (1, .int a0), (2, .int a1), (3, .int a2)]) hx hb dX4_add_5 hl (by decide) rfl (fun ls hl => ?_)
    refine lv_aload hx hb dX4_add_7 (lv_at hl 0 rfl) ?_
    refine lv_ifnull hx hb dX4_add_9 ?_
    refine lv_aload hx hb dX4_add_12 (lv_at hl 0 rfl) ?_
    refine lv_iload_n hx hb dX4_add_14 rfl (lv_at hl 3 rfl) ?_
    refine fr_ci (fr_runV (n := 1) (rest := []) C (c_X0_reaches l D adr cs hN t1 i2 hi2 a1 _ h) hP hS (by have := hi2.2.1; omega) (fG_CL adr cs t1 hi2) rfl (fgV mw_30_11 mw_30_12 mw_30_13 mw_3_5 mw_30_14) rfl rfl rfl (by decide +kernel) ⟨Nat.le_of_ble_eq_true rfl, Nat.le_of_ble_eq_true rfl⟩ rfl hl.1 rfl (Nat.le_of_ble_eq_true rfl) dX4_add_15) hS (fun r4 t3 H locs h hP hS => ?_)
    refine lv_if_eq (tgt := 30) hx hb dX4_add_18 (by decide) (fun c9 => ?_) (fun c9 => ?_)
    · replace h := h.1 c9
      refine lv_iconst (v := (-1)) hx hb dX4_add_30 (by decide) ?_
      exact fr_iret C hP hS h dX4_add_31
    · replace h := h.2 c9
      refine lv_aload hx hb dX4_add_21 (lv_at hl 0 rfl) ?_
      refine lv_iload_n hx hb dX4_add_23 rfl (lv_at hl 4 rfl) ?_
      refine fr_ci (fr_runV (n := 1) (rest := []) C (c_X0_reaches l D adr cs hN t3 i2 hi2 a2 _ h) hP hS (by have := hi2.2.1; omega) (fG_CL adr cs t3 hi2) rfl (fgV mw_30_11 mw_30_12 mw_30_13 mw_3_5 mw_30_14) rfl rfl rfl (by decide +kernel) ⟨Nat.le_of_ble_eq_true rfl, Nat.le_of_ble_eq_true rfl⟩ rfl hl.1 rfl (Nat.le_of_ble_eq_true rfl) dX4_add_24) hS (fun r6 t5 H locs h hP hS => ?_)
      refine lv_if_ne (tgt := 32) hx hb dX4_add_27 (by decide) (fun c9 => ?_) (fun c9 => ?_)
      · replace h := h.1 c9
        refine lv_aload hx hb dX4_add_32 (lv_at hl 0 rfl) ?_
        refine lv_aload hx hb dX4_add_34 (lv_at hl 0 rfl) ?_
        refine lv_aload hx hb dX4_add_36 (lv_at hl 0 rfl) ?_
        refine lv_iload_n hx hb dX4_add_38 rfl (lv_at hl 3 rfl) ?_
        refine fr_ci (fr_runV (n := 1) (rest := [.ref (adr i2), .ref (adr i2)]) C (c_X0_keyAt l D adr cs hN t5 i2 hi2 a1 _ h) hP hS (by have := hi2.2.1; omega) (fG_CL adr cs t5 hi2) rfl (fgV mw_29_15 mw_29_16 mw_29_17 mw_3_5 mw_29_18) rfl rfl rfl (by decide +kernel) ⟨Nat.le_of_ble_eq_true rfl, Nat.le_of_ble_eq_true rfl⟩ rfl hl.1 rfl (Nat.le_of_ble_eq_true rfl) dX4_add_39) hS (fun r8 t7 H locs h hP hS => ?_)
        refine lv_aload hx hb dX4_add_42 (lv_at hl 0 rfl) ?_
        refine lv_iload_n hx hb dX4_add_44 rfl (lv_at hl 4 rfl) ?_
        refine fr_ci (fr_runV (n := 1) (rest := [.int r8, .ref (adr i2), .ref (adr i2)]) C (c_X0_keyAt l D adr cs hN t7 i2 hi2 a2 _ h) hP hS (by have := hi2.2.1; omega) (fG_CL adr cs t7 hi2) rfl (fgV mw_29_15 mw_29_16 mw_29_17 mw_3_5 mw_29_18) rfl rfl rfl (by decide +kernel) ⟨Nat.le_of_ble_eq_true rfl, Nat.le_of_ble_eq_true rfl⟩ rfl hl.1 rfl (Nat.le_of_ble_eq_true rfl) dX4_add_45) hS (fun r10 t9 H locs h hP hS => ?_)
        refine fr_ci (fr_runV (n := 2) (rest := [.ref (adr i2)]) C (c_X0_sumOf l D adr cs hN t9 i2 hi2 r8 r10 _ h) hP hS (by have := hi2.2.1; omega) (fG_CL adr cs t9 hi2) rfl (fgV mw_30_16 mw_30_17 mw_30_18 mw_3_5 mw_30_19) rfl rfl rfl (by decide +kernel) ⟨Nat.le_of_ble_eq_true rfl, Nat.le_of_ble_eq_true rfl⟩ rfl hl.1 rfl (Nat.le_of_ble_eq_true rfl) dX4_add_48) hS (fun r12 t11 H locs h hP hS => ?_)
        refine fr_ci (fr_runV (n := 1) (rest := []) C (c_X0_placeOf l D adr cs hN t11 i2 hi2 r12 _ h) hP hS (by have := hi2.2.1; omega) (fG_CL adr cs t11 hi2) rfl (fgV mw_31_17 mw_31_18 mw_31_19 mw_3_5 mw_31_20) rfl rfl rfl (by decide +kernel) ⟨Nat.le_of_ble_eq_true rfl, Nat.le_of_ble_eq_true rfl⟩ rfl hl.1 rfl (Nat.le_of_ble_eq_true rfl) dX4_add_51) hS (fun r14 t13 H locs h hP hS => ?_)
        exact fr_iret C hP hS h dX4_add_54
      · replace h := h.2 c9
        refine lv_iconst (v := (-1)) hx hb dX4_add_30 (by decide) ?_
        exact fr_iret C hP hS h dX4_add_31

/-! X4.minus -/
abbrev wm_X4_minus : List Cond := Cond.code yX4_minus cX4_minus 4 (some .int) :: wsL_law
def q_X4_minus (t : fcS) (a0 : Int32) (a1 : Int32) (post : Int32 → fcS → Prop) : Prop := q_X4_listAt t a0 (fun (r : Option Nat) (t1 : fcS) => (r = none → (post ((-1)) t1)) ∧ (∀ i2 : Nat, r = some i2 → (fisL i2 ∧ (q_X0_reaches t1 i2 a1 (fun (r4 : Int32) (t3 : fcS) => (¬ r4 = 0 → (q_X0_keyAt t3 i2 a1 (fun (r6 : Int32) (t5 : fcS) => q_X0_oppositeOf t5 i2 r6 (fun (r8 : Int32) (t7 : fcS) => q_X0_placeOf t7 i2 r8 (fun (r10 : Int32) (t9 : fcS) => post r10 t9))))) ∧ (r4 = 0 → (post ((-1)) t3)))))))
set_option maxHeartbeats 4000000 in
set_option maxRecDepth 100000 in
theorem c_X4_minus (l : Launch) (D : va_G) (adr : Nat → Nat) (cs : Nat → ClassId) {N : Nat} (hN : 53 ≤ N) (t : fcS) (a0 : Int32) (a1 : Int32) (post : Int32 → fcS → Prop) (h : q_X4_minus t a0 a1 post) : Met l yX4_minus wm_X4_minus ({ frames := 6, cells := 0, slots := 0, locals := 142 } : Room) (fcPre D adr cs N t [.ref (adr 0), .int a0, .int a1]) (fQi D adr cs N post) 0 0 (faN adr N) := by
  refine f_enter (cc := cX4_minus) (nL := 4) (ret := some .int) (lv := [(0, .ref (adr 0)), (1, .int a0), (2, .int a1)]) (own := RX4) (by decide) rfl (Nat.le_of_ble_eq_true rfl) rfl rfl ?_
  intro p e s m below meth c ls C hP hS hl
  have hx := C.1.1
  have hb := C.1.2.1
  unfold q_X4_minus at h
  refine lv_aload_n hx hb dX4_minus_0 rfl (lv_at hl 0 rfl) ?_
  refine lv_iload_n hx hb dX4_minus_1 rfl (lv_at hl 1 rfl) ?_
  refine fr_cq (fr_runV (n := 1) (rest := []) C (c_X4_listAt l D adr cs hN t a0 _ h) hP hS (by omega) (fG_FC adr cs t) rfl (fgV mw_26_20 mw_26_21 mw_26_22 mw_1_2 mw_26_23) rfl rfl rfl (by decide +kernel) ⟨Nat.le_of_ble_eq_true rfl, Nat.le_of_ble_eq_true rfl⟩ rfl hl.1 rfl (Nat.le_of_ble_eq_true rfl) dX4_minus_2) hS (fun t1 H locs h hP hS => ?_) (fun i2 t1 H locs h hP hS => ?_)
  · replace h := h.1 rfl
    refine lv_astore_nN (lv' := [(3, .null), (0, .ref (adr 0)), (1, .int a0), (2, .int a1)]) hx hb dX4_minus_5 rfl hl (by decide) rfl (fun ls hl => ?_)
    refine lv_aload_nN hx hb dX4_minus_6 rfl (lv_at hl 0 rfl) ?_
    refine lv_ifnullN (tgt := 18) hx hb dX4_minus_7 (by decide) ?_
    refine lv_iconst (v := (-1)) hx hb dX4_minus_18 (by decide) ?_
    exact fr_iret C hP hS h dX4_minus_19
  · obtain ⟨hi2, h⟩ := h.2 i2 rfl
    refine lv_astore_n (lv' := [(3, .ref (adr i2)), (0, .ref (adr 0)), (1, .int a0), (2, .int a1)]) hx hb dX4_minus_5 rfl hl (by decide) rfl (fun ls hl => ?_)
    refine lv_aload_n hx hb dX4_minus_6 rfl (lv_at hl 0 rfl) ?_
    refine lv_ifnull hx hb dX4_minus_7 ?_
    refine lv_aload_n hx hb dX4_minus_10 rfl (lv_at hl 0 rfl) ?_
    refine lv_iload_n hx hb dX4_minus_11 rfl (lv_at hl 3 rfl) ?_
    refine fr_ci (fr_runV (n := 1) (rest := []) C (c_X0_reaches l D adr cs hN t1 i2 hi2 a1 _ h) hP hS (by have := hi2.2.1; omega) (fG_CL adr cs t1 hi2) rfl (fgV mw_30_11 mw_30_12 mw_30_13 mw_3_5 mw_30_14) rfl rfl rfl (by decide +kernel) ⟨Nat.le_of_ble_eq_true rfl, Nat.le_of_ble_eq_true rfl⟩ rfl hl.1 rfl (Nat.le_of_ble_eq_true rfl) dX4_minus_12) hS (fun r4 t3 H locs h hP hS => ?_)
    refine lv_if_ne (tgt := 20) hx hb dX4_minus_15 (by decide) (fun c9 => ?_) (fun c9 => ?_)
    · replace h := h.1 c9
      refine lv_aload_n hx hb dX4_minus_20 rfl (lv_at hl 0 rfl) ?_
      refine lv_aload_n hx hb dX4_minus_21 rfl (lv_at hl 0 rfl) ?_
      refine lv_aload_n hx hb dX4_minus_22 rfl (lv_at hl 0 rfl) ?_
      refine lv_iload_n hx hb dX4_minus_23 rfl (lv_at hl 3 rfl) ?_
      refine fr_ci (fr_runV (n := 1) (rest := [.ref (adr i2), .ref (adr i2)]) C (c_X0_keyAt l D adr cs hN t3 i2 hi2 a1 _ h) hP hS (by have := hi2.2.1; omega) (fG_CL adr cs t3 hi2) rfl (fgV mw_29_15 mw_29_16 mw_29_17 mw_3_5 mw_29_18) rfl rfl rfl (by decide +kernel) ⟨Nat.le_of_ble_eq_true rfl, Nat.le_of_ble_eq_true rfl⟩ rfl hl.1 rfl (Nat.le_of_ble_eq_true rfl) dX4_minus_24) hS (fun r6 t5 H locs h hP hS => ?_)
      refine fr_ci (fr_runV (n := 1) (rest := [.ref (adr i2)]) C (c_X0_oppositeOf l D adr cs hN t5 i2 hi2 r6 _ h) hP hS (by have := hi2.2.1; omega) (fG_CL adr cs t5 hi2) rfl (fgV mw_32_17 mw_32_18 mw_32_19 mw_3_5 mw_32_20) rfl rfl rfl (by decide +kernel) ⟨Nat.le_of_ble_eq_true rfl, Nat.le_of_ble_eq_true rfl⟩ rfl hl.1 rfl (Nat.le_of_ble_eq_true rfl) dX4_minus_27) hS (fun r8 t7 H locs h hP hS => ?_)
      refine fr_ci (fr_runV (n := 1) (rest := []) C (c_X0_placeOf l D adr cs hN t7 i2 hi2 r8 _ h) hP hS (by have := hi2.2.1; omega) (fG_CL adr cs t7 hi2) rfl (fgV mw_31_17 mw_31_18 mw_31_19 mw_3_5 mw_31_20) rfl rfl rfl (by decide +kernel) ⟨Nat.le_of_ble_eq_true rfl, Nat.le_of_ble_eq_true rfl⟩ rfl hl.1 rfl (Nat.le_of_ble_eq_true rfl) dX4_minus_30) hS (fun r10 t9 H locs h hP hS => ?_)
      exact fr_iret C hP hS h dX4_minus_33
    · replace h := h.2 c9
      refine lv_iconst (v := (-1)) hx hb dX4_minus_18 (by decide) ?_
      exact fr_iret C hP hS h dX4_minus_19

/-! X4.order -/
abbrev wm_X4_order : List Cond := Cond.code yX4_order cX4_order 4 (some .int) :: wsL_law
def q_X4_order (t : fcS) (a0 : Int32) (a1 : Int32) (post : Int32 → fcS → Prop) : Prop := q_X4_listAt t a0 (fun (r : Option Nat) (t1 : fcS) => (r = none → (post ((-1)) t1)) ∧ (∀ i2 : Nat, r = some i2 → (fisL i2 ∧ (q_X0_reaches t1 i2 a1 (fun (r4 : Int32) (t3 : fcS) => (¬ r4 = 0 → (q_X0_keyAt t3 i2 a1 (fun (r6 : Int32) (t5 : fcS) => q_X0_orderOf t5 i2 r6 (fun (r8 : Int32) (t7 : fcS) => post r8 t7)))) ∧ (r4 = 0 → (post ((-1)) t3)))))))
set_option maxHeartbeats 4000000 in
set_option maxRecDepth 100000 in
theorem c_X4_order (l : Launch) (D : va_G) (adr : Nat → Nat) (cs : Nat → ClassId) {N : Nat} (hN : 53 ≤ N) (t : fcS) (a0 : Int32) (a1 : Int32) (post : Int32 → fcS → Prop) (h : q_X4_order t a0 a1 post) : Met l yX4_order wm_X4_order ({ frames := 6, cells := 0, slots := 0, locals := 171 } : Room) (fcPre D adr cs N t [.ref (adr 0), .int a0, .int a1]) (fQi D adr cs N post) 0 0 (faN adr N) := by
  refine f_enter (cc := cX4_order) (nL := 4) (ret := some .int) (lv := [(0, .ref (adr 0)), (1, .int a0), (2, .int a1)]) (own := RX4) (by decide) rfl (Nat.le_of_ble_eq_true rfl) rfl rfl ?_
  intro p e s m below meth c ls C hP hS hl
  have hx := C.1.1
  have hb := C.1.2.1
  unfold q_X4_order at h
  refine lv_aload_n hx hb dX4_order_0 rfl (lv_at hl 0 rfl) ?_
  refine lv_iload_n hx hb dX4_order_1 rfl (lv_at hl 1 rfl) ?_
  refine fr_cq (fr_runV (n := 1) (rest := []) C (c_X4_listAt l D adr cs hN t a0 _ h) hP hS (by omega) (fG_FC adr cs t) rfl (fgV mw_26_20 mw_26_21 mw_26_22 mw_1_2 mw_26_23) rfl rfl rfl (by decide +kernel) ⟨Nat.le_of_ble_eq_true rfl, Nat.le_of_ble_eq_true rfl⟩ rfl hl.1 rfl (Nat.le_of_ble_eq_true rfl) dX4_order_2) hS (fun t1 H locs h hP hS => ?_) (fun i2 t1 H locs h hP hS => ?_)
  · replace h := h.1 rfl
    refine lv_astore_nN (lv' := [(3, .null), (0, .ref (adr 0)), (1, .int a0), (2, .int a1)]) hx hb dX4_order_5 rfl hl (by decide) rfl (fun ls hl => ?_)
    refine lv_aload_nN hx hb dX4_order_6 rfl (lv_at hl 0 rfl) ?_
    refine lv_ifnullN (tgt := 18) hx hb dX4_order_7 (by decide) ?_
    refine lv_iconst (v := (-1)) hx hb dX4_order_18 (by decide) ?_
    exact fr_iret C hP hS h dX4_order_19
  · obtain ⟨hi2, h⟩ := h.2 i2 rfl
    refine lv_astore_n (lv' := [(3, .ref (adr i2)), (0, .ref (adr 0)), (1, .int a0), (2, .int a1)]) hx hb dX4_order_5 rfl hl (by decide) rfl (fun ls hl => ?_)
    refine lv_aload_n hx hb dX4_order_6 rfl (lv_at hl 0 rfl) ?_
    refine lv_ifnull hx hb dX4_order_7 ?_
    refine lv_aload_n hx hb dX4_order_10 rfl (lv_at hl 0 rfl) ?_
    refine lv_iload_n hx hb dX4_order_11 rfl (lv_at hl 3 rfl) ?_
    refine fr_ci (fr_runV (n := 1) (rest := []) C (c_X0_reaches l D adr cs hN t1 i2 hi2 a1 _ h) hP hS (by have := hi2.2.1; omega) (fG_CL adr cs t1 hi2) rfl (fgV mw_30_11 mw_30_12 mw_30_13 mw_3_5 mw_30_14) rfl rfl rfl (by decide +kernel) ⟨Nat.le_of_ble_eq_true rfl, Nat.le_of_ble_eq_true rfl⟩ rfl hl.1 rfl (Nat.le_of_ble_eq_true rfl) dX4_order_12) hS (fun r4 t3 H locs h hP hS => ?_)
    refine lv_if_ne (tgt := 20) hx hb dX4_order_15 (by decide) (fun c9 => ?_) (fun c9 => ?_)
    · replace h := h.1 c9
      refine lv_aload_n hx hb dX4_order_20 rfl (lv_at hl 0 rfl) ?_
      refine lv_aload_n hx hb dX4_order_21 rfl (lv_at hl 0 rfl) ?_
      refine lv_iload_n hx hb dX4_order_22 rfl (lv_at hl 3 rfl) ?_
      refine fr_ci (fr_runV (n := 1) (rest := [.ref (adr i2)]) C (c_X0_keyAt l D adr cs hN t3 i2 hi2 a1 _ h) hP hS (by have := hi2.2.1; omega) (fG_CL adr cs t3 hi2) rfl (fgV mw_29_15 mw_29_16 mw_29_17 mw_3_5 mw_29_18) rfl rfl rfl (by decide +kernel) ⟨Nat.le_of_ble_eq_true rfl, Nat.le_of_ble_eq_true rfl⟩ rfl hl.1 rfl (Nat.le_of_ble_eq_true rfl) dX4_order_23) hS (fun r6 t5 H locs h hP hS => ?_)
      refine fr_ci (fr_runV (n := 1) (rest := []) C (c_X0_orderOf l D adr cs hN t5 i2 hi2 r6 _ h) hP hS (by have := hi2.2.1; omega) (fG_CL adr cs t5 hi2) rfl (fgV mw_33_5 mw_33_6 mw_33_7 mw_3_5 mw_33_8) rfl rfl rfl (by decide +kernel) ⟨Nat.le_of_ble_eq_true rfl, Nat.le_of_ble_eq_true rfl⟩ rfl hl.1 rfl (Nat.le_of_ble_eq_true rfl) dX4_order_26) hS (fun r8 t7 H locs h hP hS => ?_)
      exact fr_iret C hP hS h dX4_order_29
    · replace h := h.2 c9
      refine lv_iconst (v := (-1)) hx hb dX4_order_18 (by decide) ?_
      exact fr_iret C hP hS h dX4_order_19

/-! X4.told -/
abbrev wm_X4_told : List Cond := Cond.code yX4_told cX4_told 2 (some .int) :: wsL_law
def q_X4_told (t : fcS) (a0 : Int32) (post : Int32 → fcS → Prop) : Prop := (a0 = 0 → (post ((fgi t 1 0)) t)) ∧ (¬ a0 = 0 → ((a0 = 1 → (post ((fgi t 0 5)) t)) ∧ (¬ a0 = 1 → ((a0 = 2 → (post ((fgi t 0 6)) t)) ∧ (¬ a0 = 2 → ((a0 = 3 → (post ((fgi t 0 7)) t)) ∧ (¬ a0 = 3 → (post ((-1)) t))))))))
set_option maxHeartbeats 4000000 in
set_option maxRecDepth 100000 in
theorem c_X4_told (l : Launch) (D : va_G) (adr : Nat → Nat) (cs : Nat → ClassId) {N : Nat} (hN : 53 ≤ N) (t : fcS) (a0 : Int32) (post : Int32 → fcS → Prop) (h : q_X4_told t a0 post) : Met l yX4_told wm_X4_told ({ frames := 0, cells := 0, slots := 0, locals := 0 } : Room) (fcPre D adr cs N t [.ref (adr 0), .int a0]) (fQi D adr cs N post) 0 0 (faN adr N) := by
  refine f_enter (cc := cX4_told) (nL := 2) (ret := some .int) (lv := [(0, .ref (adr 0)), (1, .int a0)]) (own := RX4) (by decide) rfl (Nat.le_of_ble_eq_true rfl) rfl rfl ?_
  intro p e s m below meth c ls C hP hS hl
  have hx := C.1.1
  have hb := C.1.2.1
  unfold q_X4_told at h
  refine lv_iload_n hx hb dX4_told_0 rfl (lv_at hl 1 rfl) ?_
  by_cases c0 : a0 = 0
  · replace h := h.1 c0
    refine lv_tableIn (off := 31) (tgt := 32) hx hb dX4_told_1 (by rw [c0]; decide) (by rw [c0]; decide) (by rw [c0]; rfl) (by decide) ?_
    refine lv_aload_n hx hb dX4_told_32 rfl (lv_at hl 0 rfl) ?_
    refine fr_get (j := 0) C hP (by omega) (fG_FC adr cs t) rfl (fun w h => List.mem_cons_of_mem _ (inl_X4 w h)) (by decide) rfl (List.mem_cons_of_mem _ mw_1_15) rfl dX4_told_33 ?_
    refine fr_getN (j := 0) C hP (by omega) (fG_PO adr cs t) rfl (fun w h => List.mem_cons_of_mem _ (inl_X3 w h)) (by decide) rfl (by decide +kernel) rfl dX4_told_36 ?_
    exact fr_iret C hP hS h dX4_told_39
  replace h := h.2 c0
  by_cases c1 : a0 = 1
  · replace h := h.1 c1
    refine lv_tableIn (off := 39) (tgt := 40) hx hb dX4_told_1 (by rw [c1]; decide) (by rw [c1]; decide) (by rw [c1]; rfl) (by decide) ?_
    refine lv_aload_n hx hb dX4_told_40 rfl (lv_at hl 0 rfl) ?_
    refine fr_get (j := 5) C hP (by omega) (fG_FC adr cs t) rfl (fun w h => List.mem_cons_of_mem _ (inl_X4 w h)) (by decide) rfl (List.mem_cons_of_mem _ mw_3_19) rfl dX4_told_41 ?_
    exact fr_iret C hP hS h dX4_told_44
  replace h := h.2 c1
  by_cases c2 : a0 = 2
  · replace h := h.1 c2
    refine lv_tableIn (off := 44) (tgt := 45) hx hb dX4_told_1 (by rw [c2]; decide) (by rw [c2]; decide) (by rw [c2]; rfl) (by decide) ?_
    refine lv_aload_n hx hb dX4_told_45 rfl (lv_at hl 0 rfl) ?_
    refine fr_get (j := 6) C hP (by omega) (fG_FC adr cs t) rfl (fun w h => List.mem_cons_of_mem _ (inl_X4 w h)) (by decide) rfl (List.mem_cons_of_mem _ mw_3_18) rfl dX4_told_46 ?_
    exact fr_iret C hP hS h dX4_told_49
  replace h := h.2 c2
  by_cases c3 : a0 = 3
  · replace h := h.1 c3
    refine lv_tableIn (off := 49) (tgt := 50) hx hb dX4_told_1 (by rw [c3]; decide) (by rw [c3]; decide) (by rw [c3]; rfl) (by decide) ?_
    refine lv_aload_n hx hb dX4_told_50 rfl (lv_at hl 0 rfl) ?_
    refine fr_get (j := 7) C hP (by omega) (fG_FC adr cs t) rfl (fun w h => List.mem_cons_of_mem _ (inl_X4 w h)) (by decide) rfl (List.mem_cons_of_mem _ mw_3_20) rfl dX4_told_51 ?_
    exact fr_iret C hP hS h dX4_told_54
  replace h := h.2 c3
  refine lv_tableOut (tgt := 55) hx hb dX4_told_1 (by have q0 := lv_neT (a := 0) c0 (by decide); have q1 := lv_neT (a := 1) c1 (by decide); have q2 := lv_neT (a := 2) c2 (by decide); have q3 := lv_neT (a := 3) c3 (by decide); omega) (by decide) ?_
  refine lv_iconst (v := (-1)) hx hb dX4_told_55 (by decide) ?_
  exact fr_iret C hP hS h dX4_told_56

/-! X4.traced -/
abbrev wm_X4_traced : List Cond := Cond.code yX4_traced cX4_traced 1 (some .long) :: wsL_law
def q_X4_traced (t : fcS) (post : Int64 → fcS → Prop) : Prop := post ((fgj t 0 9)) t
set_option maxHeartbeats 4000000 in
set_option maxRecDepth 100000 in
theorem c_X4_traced (l : Launch) (D : va_G) (adr : Nat → Nat) (cs : Nat → ClassId) {N : Nat} (hN : 53 ≤ N) (t : fcS)  (post : Int64 → fcS → Prop) (h : q_X4_traced t  post) : Met l yX4_traced wm_X4_traced ({ frames := 0, cells := 0, slots := 0, locals := 0 } : Room) (fcPre D adr cs N t [.ref (adr 0)]) (fQl D adr cs N post) 0 0 (faN adr N) := by
  refine f_enter (cc := cX4_traced) (nL := 1) (ret := some .long) (lv := [(0, .ref (adr 0))]) (own := RX4) (by decide) rfl (Nat.le_of_ble_eq_true rfl) rfl rfl ?_
  intro p e s m below meth c ls C hP hS hl
  have hx := C.1.1
  have hb := C.1.2.1
  unfold q_X4_traced at h
  refine lv_aload_n hx hb dX4_traced_0 rfl (lv_at hl 0 rfl) ?_
  refine fr_get (j := 9) C hP (by omega) (fG_FC adr cs t) rfl (fun w h => List.mem_cons_of_mem _ (inl_X4 w h)) (by decide) rfl (List.mem_cons_of_mem _ mw_20_19) rfl dX4_traced_1 ?_
  exact fr_lret C hP hS h dX4_traced_4

