/-! X4.at -/
abbrev wm_X4_at : List Cond := Cond.code yX4_at cX4_at 2 (some .int) :: wsL_law
def q_X4_at (t : fcS) (k0a : Nat) (n0a : Nat) (a1 : Int32) (post : Int32 → fcS → Prop) : Prop := (a1 < 0 → (post 0 t)) ∧ (¬ a1 < 0 → (((Int32.ofNat n0a) ≤ a1 → (post 0 t)) ∧ (¬ (Int32.ofNat n0a) ≤ a1 → ((vp_in a1 n0a) ∧ (post ((fga t k0a (Int32.toNatClampNeg a1))) t)))))
set_option maxHeartbeats 4000000 in
set_option maxRecDepth 100000 in
theorem c_X4_at (l : Launch) (D : va_G) (adr : Nat → Nat) (cs : Nat → ClassId) {N : Nat} (hN : 53 ≤ N) (t : fcS) (k0a n0a : Nat) (hG0a : ∀ u : fcS, fG adr cs u k0a = .inl (cs 0, n0a, .inl (fga u k0a))) (hb0a : k0a < N) (a1 : Int32) (post : Int32 → fcS → Prop) (h : q_X4_at t k0a n0a a1 post) : Met l yX4_at wm_X4_at ({ frames := 0, cells := 0, slots := 0, locals := 0 } : Room) (fcPre D adr cs N t [.ref (adr k0a), .int a1]) (fQi D adr cs N post) 0 0 (faN adr N) := by
  refine f_enter (cc := cX4_at) (nL := 2) (ret := some .int) (lv := [(0, .ref (adr k0a)), (1, .int a1)]) (own := RX4) (by decide) rfl (Nat.le_of_ble_eq_true rfl) rfl rfl ?_
  intro p e s m below meth c ls C hP hS hl
  have hx := C.1.1
  have hb := C.1.2.1
  unfold q_X4_at at h
  refine lv_iload_n hx hb dX4_at_0 rfl (lv_at hl 1 rfl) ?_
  refine lv_if_lt (tgt := 16) hx hb dX4_at_1 (by decide) (fun c9 => ?_) (fun c9 => ?_)
  · replace h := h.1 c9
    refine lv_iconst (v := 0) hx hb dX4_at_16 (by decide) ?_
    exact fr_iret C hP hS h dX4_at_17
  · replace h := h.2 c9
    refine lv_iload_n hx hb dX4_at_4 rfl (lv_at hl 1 rfl) ?_
    refine lv_aload_n hx hb dX4_at_5 rfl (lv_at hl 0 rfl) ?_
    refine fr_alen (q := 0) (v := (Int32.ofNat n0a)) C hP hb0a (hG0a t) rfl rfl dX4_at_6 ?_
    refine lv_icmp_ge (tgt := 16) hx hb dX4_at_7 (by decide) (fun c9 => ?_) (fun c9 => ?_)
    · replace h := h.1 c9
      refine lv_iconst (v := 0) hx hb dX4_at_16 (by decide) ?_
      exact fr_iret C hP hS h dX4_at_17
    · replace h := h.2 c9
      refine lv_aload_n hx hb dX4_at_10 rfl (lv_at hl 0 rfl) ?_
      refine lv_iload_n hx hb dX4_at_11 rfl (lv_at hl 1 rfl) ?_
      refine fr_iald C hP hb0a (hG0a t) h.1 dX4_at_12 ?_
      replace h := h.2
      refine lv_goto (tgt := 17) hx hb dX4_at_13 (by decide) ?_
      exact fr_iret C hP hS h dX4_at_17

/-! X4.atS -/

def q_X4_atS (t : fcS) (a1 : Int32) (post : Int32 → fcS → Prop) : Prop := (a1 < 0 → (post 0 t)) ∧ (¬ a1 < 0 → ((3 ≤ a1 → (post 0 t)) ∧ (¬ 3 ≤ a1 → ((vp_in a1 3) ∧ (post ((fTR (Int32.toNatClampNeg a1))) t)))))
set_option maxHeartbeats 4000000 in
set_option maxRecDepth 100000 in
theorem c_X4_atS (l : Launch) (D : va_G) (adr : Nat → Nat) (cs : Nat → ClassId) {N : Nat} (hN : 53 ≤ N) (t : fcS) (a1 : Int32) (post : Int32 → fcS → Prop) (h : q_X4_atS t a1 post) : Met l yX4_at wm_X4_at ({ frames := 0, cells := 0, slots := 0, locals := 0 } : Room) (fcPre D adr cs N t [.ref (adr 101), .int a1]) (fQi D adr cs N post) 0 0 (faN adr N) := by
  refine f_enter (cc := cX4_at) (nL := 2) (ret := some .int) (lv := [(0, .ref (adr 101)), (1, .int a1)]) (own := RX4) (by decide) rfl (Nat.le_of_ble_eq_true rfl) rfl rfl ?_
  intro p e s m below meth c ls C hP hS hl
  have hx := C.1.1
  have hb := C.1.2.1
  unfold q_X4_atS at h
  refine lv_iload_n hx hb dX4_at_0 rfl (lv_at hl 1 rfl) ?_
  refine lv_if_lt (tgt := 16) hx hb dX4_at_1 (by decide) (fun c9 => ?_) (fun c9 => ?_)
  · replace h := h.1 c9
    refine lv_iconst (v := 0) hx hb dX4_at_16 (by decide) ?_
    exact fr_iret C hP hS h dX4_at_17
  · replace h := h.2 c9
    refine lv_iload_n hx hb dX4_at_4 rfl (lv_at hl 1 rfl) ?_
    refine lv_aload_n hx hb dX4_at_5 rfl (lv_at hl 0 rfl) ?_
    refine va_tlen (v := 3) hx hb C.2.2.2.2.2.2.2.2 hS (by decide) dX4_at_6 ?_
    refine lv_icmp_ge (tgt := 16) hx hb dX4_at_7 (by decide) (fun c9 => ?_) (fun c9 => ?_)
    · replace h := h.1 c9
      refine lv_iconst (v := 0) hx hb dX4_at_16 (by decide) ?_
      exact fr_iret C hP hS h dX4_at_17
    · replace h := h.2 c9
      refine lv_aload_n hx hb dX4_at_10 rfl (lv_at hl 0 rfl) ?_
      refine lv_iload_n hx hb dX4_at_11 rfl (lv_at hl 1 rfl) ?_
      refine va_ti hx hb C.2.2.2.2.2.2.2.2 hS h.1 rfl dX4_at_12 ?_
      replace h := h.2
      refine lv_goto (tgt := 17) hx hb dX4_at_13 (by decide) ?_
      exact fr_iret C hP hS h dX4_at_17

/-! X4.put -/
abbrev wm_X4_put : List Cond := Cond.code yX4_put cX4_put 3 none :: wsL_law
def q_X4_put (t : fcS) (k0a : Nat) (n0a : Nat) (a1 : Int32) (a2 : Int32) (post : fcS → Prop) : Prop := (a1 < 0 → (post t)) ∧ (¬ a1 < 0 → (((Int32.ofNat n0a) ≤ a1 → (post t)) ∧ (¬ (Int32.ofNat n0a) ≤ a1 → ((vp_in a1 n0a) ∧ (∀ t1 : fcS, t1 = fsa t k0a (Int32.toNatClampNeg a1) a2 → (post t1))))))
set_option maxHeartbeats 4000000 in
set_option maxRecDepth 100000 in
theorem c_X4_put (l : Launch) (D : va_G) (adr : Nat → Nat) (cs : Nat → ClassId) {N : Nat} (hN : 53 ≤ N) (t : fcS) (k0a n0a : Nat) (hG0a : ∀ u : fcS, fG adr cs u k0a = .inl (cs 0, n0a, .inl (fga u k0a))) (hb0a : k0a < N) (a1 : Int32) (a2 : Int32) (post : fcS → Prop) (h : q_X4_put t k0a n0a a1 a2 post) : Met l yX4_put wm_X4_put ({ frames := 0, cells := 0, slots := 0, locals := 0 } : Room) (fcPre D adr cs N t [.ref (adr k0a), .int a1, .int a2]) (fQv D adr cs N post) 0 0 (faN adr N) := by
  refine f_enter (cc := cX4_put) (nL := 3) (ret := none) (lv := [(0, .ref (adr k0a)), (1, .int a1), (2, .int a2)]) (own := RX4) (by decide) rfl (Nat.le_of_ble_eq_true rfl) rfl rfl ?_
  intro p e s m below meth c ls C hP hS hl
  have hx := C.1.1
  have hb := C.1.2.1
  unfold q_X4_put at h
  refine lv_iload_n hx hb dX4_put_0 rfl (lv_at hl 1 rfl) ?_
  refine lv_if_lt (tgt := 14) hx hb dX4_put_1 (by decide) (fun c9 => ?_) (fun c9 => ?_)
  · replace h := h.1 c9
    exact fr_vret C hP hS h dX4_put_14
  · replace h := h.2 c9
    refine lv_iload_n hx hb dX4_put_4 rfl (lv_at hl 1 rfl) ?_
    refine lv_aload_n hx hb dX4_put_5 rfl (lv_at hl 0 rfl) ?_
    refine fr_alen (q := 0) (v := (Int32.ofNat n0a)) C hP hb0a (hG0a t) rfl rfl dX4_put_6 ?_
    refine lv_icmp_ge (tgt := 14) hx hb dX4_put_7 (by decide) (fun c9 => ?_) (fun c9 => ?_)
    · replace h := h.1 c9
      exact fr_vret C hP hS h dX4_put_14
    · replace h := h.2 c9
      refine lv_aload_n hx hb dX4_put_10 rfl (lv_at hl 0 rfl) ?_
      refine lv_iload_n hx hb dX4_put_11 rfl (lv_at hl 1 rfl) ?_
      refine lv_iload_n hx hb dX4_put_12 rfl (lv_at hl 2 rfl) ?_
      refine fr_iast C hP hS hb0a (fun u => (hG0a u)) h.1 dX4_put_13 (fun H locs hP hS => ?_)
      obtain ⟨t1, et1⟩ : ∃ y : fcS, y = fsa t k0a (Int32.toNatClampNeg a1) a2 := ⟨_, rfl⟩
      rw [← et1] at hP
      replace h := h.2 t1 et1
      exact fr_vret C hP hS h dX4_put_14

/-! J7.fill_53178 -/
abbrev wm_J7_fill_53178 : List Cond := Cond.code yJ7_fill_53178 cJ7_fill_53178 4 none :: wsL_law
def q_J7_fill_53178_5 (k0a : Nat) (n0a : Nat) (post : fcS → Prop) : Nat → Int32 → Int32 → Int32 → fcS → Prop
  | 0, _, _, _, _ => False
  | n + 1, v1, v2, v3, t => (v3 ≤ v2 → (post t)) ∧ (¬ v3 ≤ v2 → ((vp_in v2 n0a) ∧ (∀ t2 : fcS, t2 = fsa t k0a (Int32.toNatClampNeg v2) v1 → (∀ x3 : Int32, x3 = v2 + 1 → (q_J7_fill_53178_5 k0a n0a post n v1 x3 v3 t2)))))
def q_J7_fill_53178 (t : fcS) (k0a : Nat) (n0a : Nat) (a1 : Int32) (post : fcS → Prop) : Prop := ∀ x1 : Int32, x1 = (Int32.ofNat n0a) → (∃ n0, q_J7_fill_53178_5 k0a n0a post n0 a1 0 x1 t)
set_option maxHeartbeats 4000000 in
set_option maxRecDepth 100000 in
theorem k_J7_fill_53178_5 {D : va_G} {adr : Nat → Nat} {cs : Nat → ClassId} {N : Nat} (hN : 53 ≤ N) {p : Program} {l : Launch} {e : Env} {s : State} {m : MethodId} {args : Array Value} {below : List Frame} {meth : Method} {c : Code} (C : fCx D adr cs N p s m args meth c cJ7_fill_53178 4 (none) RJ7 wm_J7_fill_53178) (k0a : Nat)  (n0a : Nat) (hG0a : ∀ u : fcS, fG adr cs u k0a = .inl (cs 0, n0a, .inl (fga u k0a))) (hb0a : k0a < N) {post : fcS → Prop} : ∀ (n : Nat) (v1 : Int32) (v2 : Int32) (v3 : Int32) (t : fcS) (H : Heap) (locs : List Loc) (ls : Array Slot), q_J7_fill_53178_5 k0a n0a post n v1 v2 v3 t → va_P D vwCl (fwl adr N (fG adr cs t)) H → va_S (faN adr N) s.heap H locs → lv_has ls 4 [(0, .ref (adr k0a)), (1, .int v1), (2, .int v2), (3, .int v3)] → W p l e ({ frames := 0, cells := 0, slots := 0, locals := 0 } : Room) s m args below meth c H locs 0 0 (MQ below (fQv D adr cs N post) args s 0 0 (faN adr N)) (F0 m 5 ls []) := by
  have hx := C.1.1
  have hb := C.1.2.1
  intro n
  induction n with
  | zero => intro v1 v2 v3 t H locs ls h; exact False.elim h
  | succ n ih =>
    intro v1 v2 v3 t H locs ls h hP hS hl
    unfold q_J7_fill_53178_5 at h
    refine lv_iload_n hx hb dJ7_fill_53178_5 rfl (lv_at hl 2 rfl) ?_
    refine lv_iload_n hx hb dJ7_fill_53178_6 rfl (lv_at hl 3 rfl) ?_
    refine lv_icmp_ge (tgt := 20) hx hb dJ7_fill_53178_7 (by decide) (fun c9 => ?_) (fun c9 => ?_)
    · replace h := h.1 c9
      exact fr_vret C hP hS h dJ7_fill_53178_20
    · replace h := h.2 c9
      refine lv_aload_n hx hb dJ7_fill_53178_10 rfl (lv_at hl 0 rfl) ?_
      refine lv_iload_n hx hb dJ7_fill_53178_11 rfl (lv_at hl 2 rfl) ?_
      refine lv_iload_n hx hb dJ7_fill_53178_12 rfl (lv_at hl 1 rfl) ?_
      refine fr_iast C hP hS hb0a (fun u => (hG0a u)) h.1 dJ7_fill_53178_13 (fun H locs hP hS => ?_)
      obtain ⟨t2, et2⟩ : ∃ y : fcS, y = fsa t k0a (Int32.toNatClampNeg v2) v1 := ⟨_, rfl⟩
      rw [← et2] at hP
      replace h := h.2 t2 et2
      obtain ⟨x3, ex3⟩ : ∃ y : Int32, y = v2 + 1 := ⟨_, rfl⟩
      replace h := h x3 ex3
      refine lv_iinc (v := x3) (lv' := [(2, .int x3), (0, .ref (adr k0a)), (1, .int v1), (3, .int v3)]) hx hb dJ7_fill_53178_14 hl (k := 2) rfl (by rw [ex3]; rfl) (by decide) rfl (fun ls hl => ?_)
      refine lv_goto (tgt := 5) hx hb dJ7_fill_53178_17 (by decide) ?_
      exact ih v1 x3 v3 t2 _ _ _ h hP hS (lv_sub hl [1, 2, 0, 3] rfl)

set_option maxHeartbeats 4000000 in
set_option maxRecDepth 100000 in
theorem c_J7_fill_53178 (l : Launch) (D : va_G) (adr : Nat → Nat) (cs : Nat → ClassId) {N : Nat} (hN : 53 ≤ N) (t : fcS) (k0a n0a : Nat) (hG0a : ∀ u : fcS, fG adr cs u k0a = .inl (cs 0, n0a, .inl (fga u k0a))) (hb0a : k0a < N) (a1 : Int32) (post : fcS → Prop) (h : q_J7_fill_53178 t k0a n0a a1 post) : Met l yJ7_fill_53178 wm_J7_fill_53178 ({ frames := 0, cells := 0, slots := 0, locals := 0 } : Room) (fcPre D adr cs N t [.ref (adr k0a), .int a1]) (fQv D adr cs N post) 0 0 (faN adr N) := by
  refine f_enter (cc := cJ7_fill_53178) (nL := 4) (ret := none) (lv := [(0, .ref (adr k0a)), (1, .int a1)]) (own := RJ7) (by decide) rfl (Nat.le_of_ble_eq_true rfl) rfl rfl ?_
  intro p e s m below meth c ls C hP hS hl
  have hx := C.1.1
  have hb := C.1.2.1
  unfold q_J7_fill_53178 at h
  refine lv_iconst (v := 0) hx hb dJ7_fill_53178_0 (by decide) ?_
  refine lv_istore_n (lv' := [(2, .int 0), (0, .ref (adr k0a)), (1, .int a1)]) hx hb dJ7_fill_53178_1 rfl hl (by decide) rfl (fun ls hl => ?_)
  refine lv_aload_n hx hb dJ7_fill_53178_2 rfl (lv_at hl 1 rfl) ?_
  refine fr_alen (q := 0) (v := (Int32.ofNat n0a)) C hP hb0a (hG0a t) rfl rfl dJ7_fill_53178_3 ?_
  refine lv_topi (fun x1 ex1 => ?_)
  replace h := h x1 ex1
  refine lv_istore_n (lv' := [(3, .int x1), (2, .int 0), (0, .ref (adr k0a)), (1, .int a1)]) hx hb dJ7_fill_53178_4 rfl hl (by decide) rfl (fun ls hl => ?_)
  obtain ⟨n9, h⟩ := h
  exact k_J7_fill_53178_5 hN C k0a n0a hG0a hb0a n9 a1 0 x1 t _ _ _ h hP hS (lv_sub hl [2, 3, 1, 0] rfl)

/-! X2.walk -/
abbrev wm_X2_walk : List Cond := Cond.code yX2_walk cX2_walk 4 (some .int) :: wsL_law
def q_X2_walk_4 (k : Nat) (post : Int32 → fcS → Prop) : Nat → Int32 → Int32 → Int32 → fcS → Prop
  | 0, _, _, _, _ => False
  | n + 1, v1, v2, v3, t => ((fgi t k 6) ≤ v3 → (post 0 t)) ∧ (¬ (fgi t k 6) ≤ v3 → (q_X4_put t ((k + 1)) 343 v3 v2 (fun (t1 : fcS) => q_X3_product t1 v2 v1 (fun (r3 : Int32) (t2 : fcS) => q_X3_rest t2 r3 ((fgi t2 k 7)) (fun (r5 : Int32) (t4 : fcS) => (¬ r5 = 1 → (∀ x6 : Int32, x6 = v3 + 1 → (q_X2_walk_4 k post n v1 r5 x6 t4))) ∧ (r5 = 1 → (post ((v3 + 1)) t4)))))))
def q_X2_walk (t : fcS) (k : Nat) (a0 : Int32) (post : Int32 → fcS → Prop) : Prop := ∃ n0, q_X2_walk_4 k post n0 a0 1 0 t
set_option maxHeartbeats 4000000 in
set_option maxRecDepth 100000 in
theorem k_X2_walk_4 {D : va_G} {adr : Nat → Nat} {cs : Nat → ClassId} {N : Nat} (hN : 53 ≤ N) {p : Program} {l : Launch} {e : Env} {s : State} {m : MethodId} {args : Array Value} {below : List Frame} {meth : Method} {c : Code} (C : fCx D adr cs N p s m args meth c cX2_walk 4 (some .int) RX2 wm_X2_walk) (k : Nat) (hk : fisF k) {post : Int32 → fcS → Prop} : ∀ (n : Nat) (v1 : Int32) (v2 : Int32) (v3 : Int32) (t : fcS) (H : Heap) (locs : List Loc) (ls : Array Slot), q_X2_walk_4 k post n v1 v2 v3 t → va_P D vwCl (fwl adr N (fG adr cs t)) H → va_S (faN adr N) s.heap H locs → lv_has ls 4 [(0, .ref (adr k)), (1, .int v1), (2, .int v2), (3, .int v3)] → W p l e ({ frames := 2, cells := 0, slots := 0, locals := 54 } : Room) s m args below meth c H locs 0 0 (MQ below (fQi D adr cs N post) args s 0 0 (faN adr N)) (F0 m 4 ls []) := by
  have hx := C.1.1
  have hb := C.1.2.1
  intro n
  induction n with
  | zero => intro v1 v2 v3 t H locs ls h; exact False.elim h
  | succ n ih =>
    intro v1 v2 v3 t H locs ls h hP hS hl
    unfold q_X2_walk_4 at h
    refine lv_iload_n hx hb dX2_walk_4 rfl (lv_at hl 3 rfl) ?_
    refine lv_aload_n hx hb dX2_walk_5 rfl (lv_at hl 0 rfl) ?_
    refine fr_get (j := 6) C hP (by have := hk.2.1; omega) (fG_FI adr cs t hk) rfl (fun w h => List.mem_cons_of_mem _ (inl_X2 w h)) (by decide) rfl (List.mem_cons_of_mem _ mw_2_17) rfl dX2_walk_6 ?_
    refine lv_icmp_ge (tgt := 57) hx hb dX2_walk_9 (by decide) (fun c9 => ?_) (fun c9 => ?_)
    · replace h := h.1 c9
      refine lv_iconst (v := 0) hx hb dX2_walk_57 (by decide) ?_
      exact fr_iret C hP hS h dX2_walk_58
    · replace h := h.2 c9
      refine lv_aload_n hx hb dX2_walk_12 rfl (lv_at hl 0 rfl) ?_
      refine fr_get (j := 2) C hP (by have := hk.2.1; omega) (fG_FI adr cs t hk) rfl (fun w h => List.mem_cons_of_mem _ (inl_X2 w h)) (by decide) rfl (List.mem_cons_of_mem _ mw_2_13) rfl dX2_walk_13 ?_
      refine lv_iload_n hx hb dX2_walk_16 rfl (lv_at hl 3 rfl) ?_
      refine lv_iload_n hx hb dX2_walk_17 rfl (lv_at hl 2 rfl) ?_
      refine fr_cv (fr_runN (n := 3) (rest := []) C (c_X4_put l D adr cs hN t ((k + 1)) 343 (fun u => ((fun u => fG_FP adr cs u hk) u)) (by have := hk.2.1; have := hk.2.2; omega) v3 v2 _ h) hP hS (by decide +kernel) (fgN mw_6_9) rfl rfl rfl (List.mem_cons_of_mem _ mw_1_2) (List.mem_cons_of_mem _ mw_6_8) (by decide +kernel) ⟨Nat.le_of_ble_eq_true rfl, Nat.le_of_ble_eq_true rfl⟩ rfl hl.1 rfl (Nat.le_of_ble_eq_true rfl) dX2_walk_18) hS (fun t1 H locs h hP hS => ?_)
      refine lv_aload_n hx hb dX2_walk_21 rfl (lv_at hl 0 rfl) ?_
      refine fr_get (j := 0) C hP (by have := hk.2.1; omega) (fG_FI adr cs t1 hk) rfl (fun w h => List.mem_cons_of_mem _ (inl_X2 w h)) (by decide) rfl (List.mem_cons_of_mem _ mw_2_19) rfl dX2_walk_22 ?_
      refine lv_aload_n hx hb dX2_walk_25 rfl (lv_at hl 0 rfl) ?_
      refine fr_get (j := 0) C hP (by have := hk.2.1; omega) (fG_FI adr cs t1 hk) rfl (fun w h => List.mem_cons_of_mem _ (inl_X2 w h)) (by decide) rfl (List.mem_cons_of_mem _ mw_2_19) rfl dX2_walk_26 ?_
      refine lv_iload_n hx hb dX2_walk_29 rfl (lv_at hl 2 rfl) ?_
      refine lv_iload_n hx hb dX2_walk_30 rfl (lv_at hl 1 rfl) ?_
      refine fr_ci (fr_runV (n := 2) (rest := [.ref (adr 1)]) C (c_X3_product l D adr cs hN t1 v2 v1 _ h) hP hS (by omega) (fG_PO adr cs t1) rfl (fgV mw_6_10 mw_6_11 mw_6_12 mw_1_14 mw_6_13) rfl rfl rfl (by decide +kernel) ⟨Nat.le_of_ble_eq_true rfl, Nat.le_of_ble_eq_true rfl⟩ rfl hl.1 rfl (Nat.le_of_ble_eq_true rfl) dX2_walk_31) hS (fun r3 t2 H locs h hP hS => ?_)
      refine lv_aload_n hx hb dX2_walk_34 rfl (lv_at hl 0 rfl) ?_
      refine fr_get (j := 7) C hP (by have := hk.2.1; omega) (fG_FI adr cs t2 hk) rfl (fun w h => List.mem_cons_of_mem _ (inl_X2 w h)) (by decide) rfl (List.mem_cons_of_mem _ mw_2_18) rfl dX2_walk_35 ?_
      refine fr_ci (fr_runV (n := 2) (rest := []) C (c_X3_rest l D adr cs hN t2 r3 ((fgi t2 k 7)) _ h) hP hS (by omega) (fG_PO adr cs t2) rfl (fgV mw_6_18 mw_5_1 mw_5_2 mw_1_14 mw_5_3) rfl rfl rfl (by decide +kernel) ⟨Nat.le_of_ble_eq_true rfl, Nat.le_of_ble_eq_true rfl⟩ rfl hl.1 rfl (Nat.le_of_ble_eq_true rfl) dX2_walk_38) hS (fun r5 t4 H locs h hP hS => ?_)
      refine lv_istore_n (lv' := [(2, .int r5), (0, .ref (adr k)), (1, .int v1), (3, .int v3)]) hx hb dX2_walk_41 rfl hl (by decide) rfl (fun ls hl => ?_)
      refine lv_iload_n hx hb dX2_walk_42 rfl (lv_at hl 0 rfl) ?_
      refine lv_iconst (v := 1) hx hb dX2_walk_43 (by decide) ?_
      refine lv_icmp_ne (tgt := 51) hx hb dX2_walk_44 (by decide) (fun c9 => ?_) (fun c9 => ?_)
      · replace h := h.1 c9
        obtain ⟨x6, ex6⟩ : ∃ y : Int32, y = v3 + 1 := ⟨_, rfl⟩
        replace h := h x6 ex6
        refine lv_iinc (v := x6) (lv' := [(3, .int x6), (2, .int r5), (0, .ref (adr k)), (1, .int v1)]) hx hb dX2_walk_51 hl (k := 3) rfl (by rw [ex6]; rfl) (by decide) rfl (fun ls hl => ?_)
        refine lv_goto (tgt := 4) hx hb dX2_walk_54 (by decide) ?_
        exact ih v1 r5 x6 t4 _ _ _ h hP hS (lv_sub hl [2, 3, 1, 0] rfl)
      · replace h := h.2 c9
        refine lv_iload_n hx hb dX2_walk_47 rfl (lv_at hl 3 rfl) ?_
        refine lv_iconst (v := 1) hx hb dX2_walk_48 (by decide) ?_
        refine lv_iadd hx hb dX2_walk_49 ?_
        exact fr_iret C hP hS h dX2_walk_50

set_option maxHeartbeats 4000000 in
set_option maxRecDepth 100000 in
theorem c_X2_walk (l : Launch) (D : va_G) (adr : Nat → Nat) (cs : Nat → ClassId) {N : Nat} (hN : 53 ≤ N) (t : fcS) (k : Nat) (hk : fisF k) (a0 : Int32) (post : Int32 → fcS → Prop) (h : q_X2_walk t k a0 post) : Met l yX2_walk wm_X2_walk ({ frames := 2, cells := 0, slots := 0, locals := 54 } : Room) (fcPre D adr cs N t [.ref (adr k), .int a0]) (fQi D adr cs N post) 0 0 (faN adr N) := by
  refine f_enter (cc := cX2_walk) (nL := 4) (ret := some .int) (lv := [(0, .ref (adr k)), (1, .int a0)]) (own := RX2) (by decide) rfl (Nat.le_of_ble_eq_true rfl) rfl rfl ?_
  intro p e s m below meth c ls C hP hS hl
  have hx := C.1.1
  have hb := C.1.2.1
  unfold q_X2_walk at h
  refine lv_iconst (v := 1) hx hb dX2_walk_0 (by decide) ?_
  refine lv_istore_n (lv' := [(2, .int 1), (0, .ref (adr k)), (1, .int a0)]) hx hb dX2_walk_1 rfl hl (by decide) rfl (fun ls hl => ?_)
  refine lv_iconst (v := 0) hx hb dX2_walk_2 (by decide) ?_
  refine lv_istore_n (lv' := [(3, .int 0), (2, .int 1), (0, .ref (adr k)), (1, .int a0)]) hx hb dX2_walk_3 rfl hl (by decide) rfl (fun ls hl => ?_)
  obtain ⟨n9, h⟩ := h
  exact k_X2_walk_4 hN C k hk n9 a0 1 0 t _ _ _ h hP hS (lv_sub hl [2, 3, 1, 0] rfl)

/-! X2.fit -/
abbrev wm_X2_fit : List Cond := Cond.code yX2_fit cX2_fit 3 none :: wsL_law
def q_X2_fit_137 (k : Nat) (post : fcS → Prop) : Nat → Int32 → fcS → Prop
  | 0, _, _ => False
  | n + 1, v2, t => ((fgi t k 6) ≤ v2 → (post t)) ∧ (¬ (fgi t k 6) ≤ v2 → (q_X4_at t ((k + 1)) 343 v2 (fun (r9 : Int32) (t8 : fcS) => q_X4_put t8 ((k + 2)) 343 r9 v2 (fun (t10 : fcS) => ∀ x11 : Int32, x11 = v2 + 1 → (q_X2_fit_137 k post n x11 t10)))))
def q_X2_fit_109 (k : Nat) (post : fcS → Prop) : Nat → Int32 → fcS → Prop
  | 0, _, _ => False
  | n + 1, v1, t => ((fgi t k 5) ≤ v1 → (∃ n0, q_X2_fit_137 k post n0 0 t)) ∧ (¬ (fgi t k 5) ≤ v1 → (q_X2_walk t k v1 (fun (r13 : Int32) (t12 : fcS) => (r13 = (fgi t12 k 6) → (∃ n0, q_X2_fit_137 k post n0 0 t12)) ∧ (¬ r13 = (fgi t12 k 6) → (∀ x14 : Int32, x14 = v1 + 1 → (q_X2_fit_109 k post n x14 t12))))))
def q_X2_fit_63 (k : Nat) (post : fcS → Prop) : Nat → fcS → Prop
  | 0, _ => False
  | n + 1, t => ((2 * (fgi t k 5)) ≤ (fgi t k 7) → (∃ n0, q_X2_fit_109 k post n0 1 t)) ∧ (¬ (2 * (fgi t k 5)) ≤ (fgi t k 7) → (q_X3_isProduct t ((fgi t k 7)) ((fgi t k 1)) (fun (r16 : Int32) (t15 : fcS) => (r16 = 0 → (∃ n0, q_X2_fit_109 k post n0 1 t15)) ∧ (¬ r16 = 0 → (∀ t17 : fcS, t17 = fsi t15 k 7 (((fgi t15 k 7) + 1)) → (q_X2_fit_63 k post n t17))))))
def q_X2_fit (t : fcS) (k : Nat) (post : fcS → Prop) : Prop := (¬ (fgi t k 4) = (fgi t 1 0) → (∀ t1 : fcS, t1 = fsi t k 4 ((fgi t 1 0)) → (q_X3_place t1 ((fgi t1 k 1)) (fun (r3 : Int32) (t2 : fcS) => ∀ t4 : fcS, t4 = fsi t2 k 5 r3 → (∀ x5 : Int32, x5 = (if 1 < ((fgi t4 k 5) - 1) then ((fgi t4 k 5) - 1) else 1) → (∀ t6 : fcS, t6 = fsi t4 k 6 x5 → (∀ t7 : fcS, t7 = fsi t6 k 7 ((fgi t6 k 5)) → (∃ n0, q_X2_fit_63 k post n0 t7)))))))) ∧ ((fgi t k 4) = (fgi t 1 0) → (post t))
set_option maxHeartbeats 4000000 in
set_option maxRecDepth 100000 in
theorem k_X2_fit_137 {D : va_G} {adr : Nat → Nat} {cs : Nat → ClassId} {N : Nat} (hN : 53 ≤ N) {p : Program} {l : Launch} {e : Env} {s : State} {m : MethodId} {args : Array Value} {below : List Frame} {meth : Method} {c : Code} (C : fCx D adr cs N p s m args meth c cX2_fit 3 (none) RX2 wm_X2_fit) (k : Nat) (hk : fisF k) {post : fcS → Prop} : ∀ (n : Nat) (v2 : Int32) (t : fcS) (H : Heap) (locs : List Loc) (ls : Array Slot), q_X2_fit_137 k post n v2 t → va_P D vwCl (fwl adr N (fG adr cs t)) H → va_S (faN adr N) s.heap H locs → lv_has ls 3 [(0, .ref (adr k)), (2, .int v2)] → W p l e ({ frames := 3, cells := 0, slots := 0, locals := 79 } : Room) s m args below meth c H locs 0 0 (MQ below (fQv D adr cs N post) args s 0 0 (faN adr N)) (F0 m 137 ls []) := by
  have hx := C.1.1
  have hb := C.1.2.1
  intro n
  induction n with
  | zero => intro v2 t H locs ls h; exact False.elim h
  | succ n ih =>
    intro v2 t H locs ls h hP hS hl
    unfold q_X2_fit_137 at h
    refine lv_iload_n hx hb dX2_fit_137 rfl (lv_at hl 1 rfl) ?_
    refine lv_aload_n hx hb dX2_fit_138 rfl (lv_at hl 0 rfl) ?_
    refine fr_get (j := 6) C hP (by have := hk.2.1; omega) (fG_FI adr cs t hk) rfl (fun w h => List.mem_cons_of_mem _ (inl_X2 w h)) (by decide) rfl (List.mem_cons_of_mem _ mw_2_17) rfl dX2_fit_139 ?_
    refine lv_icmp_ge (tgt := 167) hx hb dX2_fit_142 (by decide) (fun c9 => ?_) (fun c9 => ?_)
    · replace h := h.1 c9
      exact fr_vret C hP hS h dX2_fit_167
    · replace h := h.2 c9
      refine lv_aload_n hx hb dX2_fit_145 rfl (lv_at hl 0 rfl) ?_
      refine fr_get (j := 3) C hP (by have := hk.2.1; omega) (fG_FI adr cs t hk) rfl (fun w h => List.mem_cons_of_mem _ (inl_X2 w h)) (by decide) rfl (List.mem_cons_of_mem _ mw_2_14) rfl dX2_fit_146 ?_
      refine lv_aload_n hx hb dX2_fit_149 rfl (lv_at hl 0 rfl) ?_
      refine fr_get (j := 2) C hP (by have := hk.2.1; omega) (fG_FI adr cs t hk) rfl (fun w h => List.mem_cons_of_mem _ (inl_X2 w h)) (by decide) rfl (List.mem_cons_of_mem _ mw_2_13) rfl dX2_fit_150 ?_
      refine lv_iload_n hx hb dX2_fit_153 rfl (lv_at hl 1 rfl) ?_
      refine fr_ci (fr_runN (n := 2) (rest := [.ref (adr ((k + 2)))]) C (c_X4_at l D adr cs hN t ((k + 1)) 343 (fun u => ((fun u => fG_FP adr cs u hk) u)) (by have := hk.2.1; have := hk.2.2; omega) v2 _ h) hP hS (by decide +kernel) (fgN mw_6_20) rfl rfl rfl (List.mem_cons_of_mem _ mw_1_2) (List.mem_cons_of_mem _ mw_6_19) (by decide +kernel) ⟨Nat.le_of_ble_eq_true rfl, Nat.le_of_ble_eq_true rfl⟩ rfl hl.1 rfl (Nat.le_of_ble_eq_true rfl) dX2_fit_154) hS (fun r9 t8 H locs h hP hS => ?_)
      refine lv_iload_n hx hb dX2_fit_157 rfl (lv_at hl 1 rfl) ?_
      refine fr_cv (fr_runN (n := 3) (rest := []) C (c_X4_put l D adr cs hN t8 ((k + 2)) 343 (fun u => ((fun u => fG_FE adr cs u hk) u)) (by have := hk.2.1; have := hk.2.2; omega) r9 v2 _ h) hP hS (by decide +kernel) (fgN mw_6_9) rfl rfl rfl (List.mem_cons_of_mem _ mw_1_2) (List.mem_cons_of_mem _ mw_6_8) (by decide +kernel) ⟨Nat.le_of_ble_eq_true rfl, Nat.le_of_ble_eq_true rfl⟩ rfl hl.1 rfl (Nat.le_of_ble_eq_true rfl) dX2_fit_158) hS (fun t10 H locs h hP hS => ?_)
      obtain ⟨x11, ex11⟩ : ∃ y : Int32, y = v2 + 1 := ⟨_, rfl⟩
      replace h := h x11 ex11
      refine lv_iinc (v := x11) (lv' := [(2, .int x11), (0, .ref (adr k))]) hx hb dX2_fit_161 hl (k := 1) rfl (by rw [ex11]; rfl) (by decide) rfl (fun ls hl => ?_)
      refine lv_goto (tgt := 137) hx hb dX2_fit_164 (by decide) ?_
      exact ih x11 t10 _ _ _ h hP hS (lv_sub hl [1, 0] rfl)

set_option maxHeartbeats 4000000 in
set_option maxRecDepth 100000 in
theorem k_X2_fit_109 {D : va_G} {adr : Nat → Nat} {cs : Nat → ClassId} {N : Nat} (hN : 53 ≤ N) {p : Program} {l : Launch} {e : Env} {s : State} {m : MethodId} {args : Array Value} {below : List Frame} {meth : Method} {c : Code} (C : fCx D adr cs N p s m args meth c cX2_fit 3 (none) RX2 wm_X2_fit) (k : Nat) (hk : fisF k) {post : fcS → Prop} : ∀ (n : Nat) (v1 : Int32) (t : fcS) (H : Heap) (locs : List Loc) (ls : Array Slot), q_X2_fit_109 k post n v1 t → va_P D vwCl (fwl adr N (fG adr cs t)) H → va_S (faN adr N) s.heap H locs → lv_has ls 3 [(0, .ref (adr k)), (1, .int v1)] → W p l e ({ frames := 3, cells := 0, slots := 0, locals := 79 } : Room) s m args below meth c H locs 0 0 (MQ below (fQv D adr cs N post) args s 0 0 (faN adr N)) (F0 m 109 ls []) := by
  have hx := C.1.1
  have hb := C.1.2.1
  intro n
  induction n with
  | zero => intro v1 t H locs ls h; exact False.elim h
  | succ n ih =>
    intro v1 t H locs ls h hP hS hl
    unfold q_X2_fit_109 at h
    refine lv_iload_n hx hb dX2_fit_109 rfl (lv_at hl 1 rfl) ?_
    refine lv_aload_n hx hb dX2_fit_110 rfl (lv_at hl 0 rfl) ?_
    refine fr_get (j := 5) C hP (by have := hk.2.1; omega) (fG_FI adr cs t hk) rfl (fun w h => List.mem_cons_of_mem _ (inl_X2 w h)) (by decide) rfl (List.mem_cons_of_mem _ mw_2_16) rfl dX2_fit_111 ?_
    refine lv_icmp_ge (tgt := 135) hx hb dX2_fit_114 (by decide) (fun c9 => ?_) (fun c9 => ?_)
    · replace h := h.1 c9
      refine lv_iconst (v := 0) hx hb dX2_fit_135 (by decide) ?_
      refine lv_istore_n (lv' := [(2, .int 0), (0, .ref (adr k)), (1, .int v1)]) hx hb dX2_fit_136 rfl hl (by decide) rfl (fun ls hl => ?_)
      obtain ⟨n9, h⟩ := h
      exact k_X2_fit_137 hN C k hk n9 0 t _ _ _ h hP hS (lv_sub hl [1, 0] rfl)
    · replace h := h.2 c9
      refine lv_aload_n hx hb dX2_fit_117 rfl (lv_at hl 0 rfl) ?_
      refine lv_iload_n hx hb dX2_fit_118 rfl (lv_at hl 1 rfl) ?_
      refine fr_ci (fr_runV (n := 1) (rest := []) C (c_X2_walk l D adr cs hN t k hk v1 _ h) hP hS (by have := hk.2.1; omega) (fG_FI adr cs t hk) rfl (fgV mw_6_4 mw_6_5 mw_6_6 mw_2_2 mw_6_7) rfl rfl rfl (by decide +kernel) ⟨Nat.le_of_ble_eq_true rfl, Nat.le_of_ble_eq_true rfl⟩ rfl hl.1 rfl (Nat.le_of_ble_eq_true rfl) dX2_fit_119) hS (fun r13 t12 H locs h hP hS => ?_)
      refine lv_aload_n hx hb dX2_fit_122 rfl (lv_at hl 0 rfl) ?_
      refine fr_get (j := 6) C hP (by have := hk.2.1; omega) (fG_FI adr cs t12 hk) rfl (fun w h => List.mem_cons_of_mem _ (inl_X2 w h)) (by decide) rfl (List.mem_cons_of_mem _ mw_2_17) rfl dX2_fit_123 ?_
      refine lv_icmp_eq (tgt := 135) hx hb dX2_fit_126 (by decide) (fun c9 => ?_) (fun c9 => ?_)
      · replace h := h.1 c9
        refine lv_iconst (v := 0) hx hb dX2_fit_135 (by decide) ?_
        refine lv_istore_n (lv' := [(2, .int 0), (0, .ref (adr k)), (1, .int v1)]) hx hb dX2_fit_136 rfl hl (by decide) rfl (fun ls hl => ?_)
        obtain ⟨n9, h⟩ := h
        exact k_X2_fit_137 hN C k hk n9 0 t12 _ _ _ h hP hS (lv_sub hl [1, 0] rfl)
      · replace h := h.2 c9
        obtain ⟨x14, ex14⟩ : ∃ y : Int32, y = v1 + 1 := ⟨_, rfl⟩
        replace h := h x14 ex14
        refine lv_iinc (v := x14) (lv' := [(1, .int x14), (0, .ref (adr k))]) hx hb dX2_fit_129 hl (k := 1) rfl (by rw [ex14]; rfl) (by decide) rfl (fun ls hl => ?_)
        refine lv_goto (tgt := 109) hx hb dX2_fit_132 (by decide) ?_
        exact ih x14 t12 _ _ _ h hP hS (lv_sub hl [1, 0] rfl)

set_option maxHeartbeats 4000000 in
set_option maxRecDepth 100000 in
theorem k_X2_fit_63 {D : va_G} {adr : Nat → Nat} {cs : Nat → ClassId} {N : Nat} (hN : 53 ≤ N) {p : Program} {l : Launch} {e : Env} {s : State} {m : MethodId} {args : Array Value} {below : List Frame} {meth : Method} {c : Code} (C : fCx D adr cs N p s m args meth c cX2_fit 3 (none) RX2 wm_X2_fit) (k : Nat) (hk : fisF k) {post : fcS → Prop} : ∀ (n : Nat) (t : fcS) (H : Heap) (locs : List Loc) (ls : Array Slot), q_X2_fit_63 k post n t → va_P D vwCl (fwl adr N (fG adr cs t)) H → va_S (faN adr N) s.heap H locs → lv_has ls 3 [(0, .ref (adr k))] → W p l e ({ frames := 3, cells := 0, slots := 0, locals := 79 } : Room) s m args below meth c H locs 0 0 (MQ below (fQv D adr cs N post) args s 0 0 (faN adr N)) (F0 m 63 ls []) := by
  have hx := C.1.1
  have hb := C.1.2.1
  intro n
  induction n with
  | zero => intro t H locs ls h; exact False.elim h
  | succ n ih =>
    intro t H locs ls h hP hS hl
    unfold q_X2_fit_63 at h
    refine lv_aload_n hx hb dX2_fit_63 rfl (lv_at hl 0 rfl) ?_
    refine fr_get (j := 7) C hP (by have := hk.2.1; omega) (fG_FI adr cs t hk) rfl (fun w h => List.mem_cons_of_mem _ (inl_X2 w h)) (by decide) rfl (List.mem_cons_of_mem _ mw_2_18) rfl dX2_fit_64 ?_
    refine lv_iconst (v := 2) hx hb dX2_fit_67 (by decide) ?_
    refine lv_aload_n hx hb dX2_fit_68 rfl (lv_at hl 0 rfl) ?_
    refine fr_get (j := 5) C hP (by have := hk.2.1; omega) (fG_FI adr cs t hk) rfl (fun w h => List.mem_cons_of_mem _ (inl_X2 w h)) (by decide) rfl (List.mem_cons_of_mem _ mw_2_16) rfl dX2_fit_69 ?_
    refine lv_imul hx hb dX2_fit_72 ?_
    refine lv_icmp_ge (tgt := 107) hx hb dX2_fit_73 (by decide) (fun c9 => ?_) (fun c9 => ?_)
    · replace h := h.1 c9
      refine lv_iconst (v := 1) hx hb dX2_fit_107 (by decide) ?_
      refine lv_istore_n (lv' := [(1, .int 1), (0, .ref (adr k))]) hx hb dX2_fit_108 rfl hl (by decide) rfl (fun ls hl => ?_)
      obtain ⟨n9, h⟩ := h
      exact k_X2_fit_109 hN C k hk n9 1 t _ _ _ h hP hS (lv_sub hl [1, 0] rfl)
    · replace h := h.2 c9
      refine lv_aload_n hx hb dX2_fit_76 rfl (lv_at hl 0 rfl) ?_
      refine fr_get (j := 0) C hP (by have := hk.2.1; omega) (fG_FI adr cs t hk) rfl (fun w h => List.mem_cons_of_mem _ (inl_X2 w h)) (by decide) rfl (List.mem_cons_of_mem _ mw_2_19) rfl dX2_fit_77 ?_
      refine lv_aload_n hx hb dX2_fit_80 rfl (lv_at hl 0 rfl) ?_
      refine fr_get (j := 7) C hP (by have := hk.2.1; omega) (fG_FI adr cs t hk) rfl (fun w h => List.mem_cons_of_mem _ (inl_X2 w h)) (by decide) rfl (List.mem_cons_of_mem _ mw_2_18) rfl dX2_fit_81 ?_
      refine lv_aload_n hx hb dX2_fit_84 rfl (lv_at hl 0 rfl) ?_
      refine fr_get (j := 1) C hP (by have := hk.2.1; omega) (fG_FI adr cs t hk) rfl (fun w h => List.mem_cons_of_mem _ (inl_X2 w h)) (by decide) rfl (List.mem_cons_of_mem _ mw_2_20) rfl dX2_fit_85 ?_
      refine fr_ci (fr_runV (n := 2) (rest := []) C (c_X3_isProduct l D adr cs hN t ((fgi t k 7)) ((fgi t k 1)) _ h) hP hS (by omega) (fG_PO adr cs t) rfl (fgV mw_4_19 mw_4_20 mw_4_21 mw_1_14 mw_4_22) rfl rfl rfl (by decide +kernel) ⟨Nat.le_of_ble_eq_true rfl, Nat.le_of_ble_eq_true rfl⟩ rfl hl.1 rfl (Nat.le_of_ble_eq_true rfl) dX2_fit_88) hS (fun r16 t15 H locs h hP hS => ?_)
      refine lv_if_eq (tgt := 107) hx hb dX2_fit_91 (by decide) (fun c9 => ?_) (fun c9 => ?_)
      · replace h := h.1 c9
        refine lv_iconst (v := 1) hx hb dX2_fit_107 (by decide) ?_
        refine lv_istore_n (lv' := [(1, .int 1), (0, .ref (adr k))]) hx hb dX2_fit_108 rfl hl (by decide) rfl (fun ls hl => ?_)
        obtain ⟨n9, h⟩ := h
        exact k_X2_fit_109 hN C k hk n9 1 t15 _ _ _ h hP hS (lv_sub hl [1, 0] rfl)
      · replace h := h.2 c9
        refine lv_aload_n hx hb dX2_fit_94 rfl (lv_at hl 0 rfl) ?_
        refine lv_dup hx hb dX2_fit_95 rfl ?_
        refine fr_get (j := 7) C hP (by have := hk.2.1; omega) (fG_FI adr cs t15 hk) rfl (fun w h => List.mem_cons_of_mem _ (inl_X2 w h)) (by decide) rfl (List.mem_cons_of_mem _ mw_2_18) rfl dX2_fit_96 ?_
        refine lv_iconst (v := 1) hx hb dX2_fit_99 (by decide) ?_
        refine lv_iadd hx hb dX2_fit_100 ?_
        refine fr_put C (fsi t15 k 7 (((fgi t15 k 7) + 1))) (j := 7) (ty := .int) hP hS (by have := hk.2.1; omega) (fG_FI adr cs t15 hk) rfl (fun w h => List.mem_cons_of_mem _ (inl_X2 w h)) tyX2_ok nmX2 (by decide) rfl (List.mem_cons_of_mem _ mw_2_18) rfl (by decide +kernel) rfl rfl (Nat.le_of_ble_eq_true rfl) (fS_FI_7 adr cs t15 hk (((fgi t15 k 7) + 1))) (fG_fsi_ne adr cs t15 k 7 (((fgi t15 k 7) + 1))) dX2_fit_101 (fun H locs hP hS => ?_)
        obtain ⟨t17, et17⟩ : ∃ y : fcS, y = fsi t15 k 7 (((fgi t15 k 7) + 1)) := ⟨_, rfl⟩
        rw [← et17] at hP
        replace h := h t17 et17
        refine lv_goto (tgt := 63) hx hb dX2_fit_104 (by decide) ?_
        exact ih  t17 _ _ _ h hP hS (lv_sub hl [0] rfl)

set_option maxHeartbeats 4000000 in
set_option maxRecDepth 100000 in
theorem c_X2_fit (l : Launch) (D : va_G) (adr : Nat → Nat) (cs : Nat → ClassId) {N : Nat} (hN : 53 ≤ N) (t : fcS) (k : Nat) (hk : fisF k) (post : fcS → Prop) (h : q_X2_fit t k post) : Met l yX2_fit wm_X2_fit ({ frames := 3, cells := 0, slots := 0, locals := 79 } : Room) (fcPre D adr cs N t [.ref (adr k)]) (fQv D adr cs N post) 0 0 (faN adr N) := by
  refine f_enter (cc := cX2_fit) (nL := 3) (ret := none) (lv := [(0, .ref (adr k))]) (own := RX2) (by decide) rfl (Nat.le_of_ble_eq_true rfl) rfl rfl ?_
  intro p e s m below meth c ls C hP hS hl
  have hx := C.1.1
  have hb := C.1.2.1
  unfold q_X2_fit at h
  refine lv_aload_n hx hb dX2_fit_0 rfl (lv_at hl 0 rfl) ?_
  refine fr_get (j := 4) C hP (by have := hk.2.1; omega) (fG_FI adr cs t hk) rfl (fun w h => List.mem_cons_of_mem _ (inl_X2 w h)) (by decide) rfl (List.mem_cons_of_mem _ mw_2_15) rfl dX2_fit_1 ?_
  refine lv_aload_n hx hb dX2_fit_4 rfl (lv_at hl 0 rfl) ?_
  refine fr_get (j := 0) C hP (by have := hk.2.1; omega) (fG_FI adr cs t hk) rfl (fun w h => List.mem_cons_of_mem _ (inl_X2 w h)) (by decide) rfl (List.mem_cons_of_mem _ mw_2_19) rfl dX2_fit_5 ?_
  refine fr_getN (j := 0) C hP (by omega) (fG_PO adr cs t) rfl (fun w h => List.mem_cons_of_mem _ (inl_X3 w h)) (by decide) rfl (by decide +kernel) rfl dX2_fit_8 ?_
  refine lv_icmp_ne (tgt := 15) hx hb dX2_fit_11 (by decide) (fun c9 => ?_) (fun c9 => ?_)
  · replace h := h.1 c9
    refine lv_aload_n hx hb dX2_fit_15 rfl (lv_at hl 0 rfl) ?_
    refine lv_aload_n hx hb dX2_fit_16 rfl (lv_at hl 0 rfl) ?_
    refine fr_get (j := 0) C hP (by have := hk.2.1; omega) (fG_FI adr cs t hk) rfl (fun w h => List.mem_cons_of_mem _ (inl_X2 w h)) (by decide) rfl (List.mem_cons_of_mem _ mw_2_19) rfl dX2_fit_17 ?_
    refine fr_getN (j := 0) C hP (by omega) (fG_PO adr cs t) rfl (fun w h => List.mem_cons_of_mem _ (inl_X3 w h)) (by decide) rfl (by decide +kernel) rfl dX2_fit_20 ?_
    refine fr_put C (fsi t k 4 ((fgi t 1 0))) (j := 4) (ty := .int) hP hS (by have := hk.2.1; omega) (fG_FI adr cs t hk) rfl (fun w h => List.mem_cons_of_mem _ (inl_X2 w h)) tyX2_ok nmX2 (by decide) rfl (List.mem_cons_of_mem _ mw_2_15) rfl (by decide +kernel) rfl rfl (Nat.le_of_ble_eq_true rfl) (fS_FI_4 adr cs t hk ((fgi t 1 0))) (fG_fsi_ne adr cs t k 4 ((fgi t 1 0))) dX2_fit_23 (fun H locs hP hS => ?_)
    obtain ⟨t1, et1⟩ : ∃ y : fcS, y = fsi t k 4 ((fgi t 1 0)) := ⟨_, rfl⟩
    rw [← et1] at hP
    replace h := h t1 et1
    refine lv_aload_n hx hb dX2_fit_26 rfl (lv_at hl 0 rfl) ?_
    refine lv_aload_n hx hb dX2_fit_27 rfl (lv_at hl 0 rfl) ?_
    refine fr_get (j := 0) C hP (by have := hk.2.1; omega) (fG_FI adr cs t1 hk) rfl (fun w h => List.mem_cons_of_mem _ (inl_X2 w h)) (by decide) rfl (List.mem_cons_of_mem _ mw_2_19) rfl dX2_fit_28 ?_
    refine lv_aload_n hx hb dX2_fit_31 rfl (lv_at hl 0 rfl) ?_
    refine fr_get (j := 1) C hP (by have := hk.2.1; omega) (fG_FI adr cs t1 hk) rfl (fun w h => List.mem_cons_of_mem _ (inl_X2 w h)) (by decide) rfl (List.mem_cons_of_mem _ mw_2_20) rfl dX2_fit_32 ?_
    refine fr_ci (fr_runV (n := 1) (rest := [.ref (adr k)]) C (c_X3_place l D adr cs hN t1 ((fgi t1 k 1)) _ h) hP hS (by omega) (fG_PO adr cs t1) rfl (fgV mw_4_18 mw_4_6 mw_4_7 mw_1_14 mw_4_8) rfl rfl rfl (by decide +kernel) ⟨Nat.le_of_ble_eq_true rfl, Nat.le_of_ble_eq_true rfl⟩ rfl hl.1 rfl (Nat.le_of_ble_eq_true rfl) dX2_fit_35) hS (fun r3 t2 H locs h hP hS => ?_)
    refine fr_put C (fsi t2 k 5 r3) (j := 5) (ty := .int) hP hS (by have := hk.2.1; omega) (fG_FI adr cs t2 hk) rfl (fun w h => List.mem_cons_of_mem _ (inl_X2 w h)) tyX2_ok nmX2 (by decide) rfl (List.mem_cons_of_mem _ mw_2_16) rfl (by decide +kernel) rfl rfl (Nat.le_of_ble_eq_true rfl) (fS_FI_5 adr cs t2 hk r3) (fG_fsi_ne adr cs t2 k 5 r3) dX2_fit_38 (fun H locs hP hS => ?_)
    obtain ⟨t4, et4⟩ : ∃ y : fcS, y = fsi t2 k 5 r3 := ⟨_, rfl⟩
    rw [← et4] at hP
    replace h := h t4 et4
    refine lv_aload_n hx hb dX2_fit_41 rfl (lv_at hl 0 rfl) ?_
    refine lv_iconst (v := 1) hx hb dX2_fit_42 (by decide) ?_
    refine lv_aload_n hx hb dX2_fit_43 rfl (lv_at hl 0 rfl) ?_
    refine fr_get (j := 5) C hP (by have := hk.2.1; omega) (fG_FI adr cs t4 hk) rfl (fun w h => List.mem_cons_of_mem _ (inl_X2 w h)) (by decide) rfl (List.mem_cons_of_mem _ mw_2_16) rfl dX2_fit_44 ?_
    refine lv_iconst (v := 1) hx hb dX2_fit_47 (by decide) ?_
    refine lv_isub hx hb dX2_fit_48 ?_
    refine va_mmax (own := RX2) (index := 47) hx hb (C.1.2.2.1.trans hl.1.symm) C.1.2.2.2.1 (C.1.2.2.2.2 _ (List.mem_cons_of_mem _ mw_4_17)) (C.1.2.2.2.2 _ (List.mem_cons_of_mem _ mw_4_2)) (C.1.2.2.2.2 _ (List.mem_cons_of_mem _ mw_4_3)) (C.1.2.2.2.2 _ (List.mem_cons_of_mem _ mw_4_4)) (Nat.le_of_ble_eq_true rfl) (Nat.le_of_ble_eq_true rfl) (Nat.zero_le _) (Nat.zero_le _) dX2_fit_49 ?_
    refine lv_topi (fun x5 ex5 => ?_)
    replace h := h x5 ex5
    refine fr_put C (fsi t4 k 6 x5) (j := 6) (ty := .int) hP hS (by have := hk.2.1; omega) (fG_FI adr cs t4 hk) rfl (fun w h => List.mem_cons_of_mem _ (inl_X2 w h)) tyX2_ok nmX2 (by decide) rfl (List.mem_cons_of_mem _ mw_2_17) rfl (by decide +kernel) rfl rfl (Nat.le_of_ble_eq_true rfl) (fS_FI_6 adr cs t4 hk x5) (fG_fsi_ne adr cs t4 k 6 x5) dX2_fit_52 (fun H locs hP hS => ?_)
    obtain ⟨t6, et6⟩ : ∃ y : fcS, y = fsi t4 k 6 x5 := ⟨_, rfl⟩
    rw [← et6] at hP
    replace h := h t6 et6
    refine lv_aload_n hx hb dX2_fit_55 rfl (lv_at hl 0 rfl) ?_
    refine lv_aload_n hx hb dX2_fit_56 rfl (lv_at hl 0 rfl) ?_
    refine fr_get (j := 5) C hP (by have := hk.2.1; omega) (fG_FI adr cs t6 hk) rfl (fun w h => List.mem_cons_of_mem _ (inl_X2 w h)) (by decide) rfl (List.mem_cons_of_mem _ mw_2_16) rfl dX2_fit_57 ?_
    refine fr_put C (fsi t6 k 7 ((fgi t6 k 5))) (j := 7) (ty := .int) hP hS (by have := hk.2.1; omega) (fG_FI adr cs t6 hk) rfl (fun w h => List.mem_cons_of_mem _ (inl_X2 w h)) tyX2_ok nmX2 (by decide) rfl (List.mem_cons_of_mem _ mw_2_18) rfl (by decide +kernel) rfl rfl (Nat.le_of_ble_eq_true rfl) (fS_FI_7 adr cs t6 hk ((fgi t6 k 5))) (fG_fsi_ne adr cs t6 k 7 ((fgi t6 k 5))) dX2_fit_60 (fun H locs hP hS => ?_)
    obtain ⟨t7, et7⟩ : ∃ y : fcS, y = fsi t6 k 7 ((fgi t6 k 5)) := ⟨_, rfl⟩
    rw [← et7] at hP
    replace h := h t7 et7
    obtain ⟨n9, h⟩ := h
    exact k_X2_fit_63 hN C k hk n9  t7 _ _ _ h hP hS (lv_sub hl [0] rfl)
  · replace h := h.2 c9
    exact fr_vret C hP hS h dX2_fit_14

/-! X2.has -/
abbrev wm_X2_has : List Cond := Cond.code yX2_has cX2_has 2 (some .boolean) :: wsL_law
def q_X2_has (t : fcS) (k : Nat) (a0 : Int32) (post : Int32 → fcS → Prop) : Prop := (a0 < 0 → (post 0 t)) ∧ (¬ a0 < 0 → (((fgi t k 5) ≤ a0 → (post 0 t)) ∧ (¬ (fgi t k 5) ≤ a0 → (post 1 t))))
set_option maxHeartbeats 4000000 in
set_option maxRecDepth 100000 in
theorem c_X2_has (l : Launch) (D : va_G) (adr : Nat → Nat) (cs : Nat → ClassId) {N : Nat} (hN : 53 ≤ N) (t : fcS) (k : Nat) (hk : fisF k) (a0 : Int32) (post : Int32 → fcS → Prop) (h : q_X2_has t k a0 post) : Met l yX2_has wm_X2_has ({ frames := 0, cells := 0, slots := 0, locals := 0 } : Room) (fcPre D adr cs N t [.ref (adr k), .int a0]) (fQi D adr cs N post) 0 0 (faN adr N) := by
  refine f_enter (cc := cX2_has) (nL := 2) (ret := some .boolean) (lv := [(0, .ref (adr k)), (1, .int a0)]) (own := RX2) (by decide) rfl (Nat.le_of_ble_eq_true rfl) rfl rfl ?_
  intro p e s m below meth c ls C hP hS hl
  have hx := C.1.1
  have hb := C.1.2.1
  unfold q_X2_has at h
  refine lv_iload_n hx hb dX2_has_0 rfl (lv_at hl 1 rfl) ?_
  refine lv_if_lt (tgt := 16) hx hb dX2_has_1 (by decide) (fun c9 => ?_) (fun c9 => ?_)
  · replace h := h.1 c9
    refine lv_iconst (v := 0) hx hb dX2_has_16 (by decide) ?_
    exact fr_zret C hP hS rfl h dX2_has_17
  · replace h := h.2 c9
    refine lv_iload_n hx hb dX2_has_4 rfl (lv_at hl 1 rfl) ?_
    refine lv_aload_n hx hb dX2_has_5 rfl (lv_at hl 0 rfl) ?_
    refine fr_get (j := 5) C hP (by have := hk.2.1; omega) (fG_FI adr cs t hk) rfl (fun w h => List.mem_cons_of_mem _ (inl_X2 w h)) (by decide) rfl (List.mem_cons_of_mem _ mw_2_16) rfl dX2_has_6 ?_
    refine lv_icmp_ge (tgt := 16) hx hb dX2_has_9 (by decide) (fun c9 => ?_) (fun c9 => ?_)
    · replace h := h.1 c9
      refine lv_iconst (v := 0) hx hb dX2_has_16 (by decide) ?_
      exact fr_zret C hP hS rfl h dX2_has_17
    · replace h := h.2 c9
      refine lv_iconst (v := 1) hx hb dX2_has_12 (by decide) ?_
      refine lv_goto (tgt := 17) hx hb dX2_has_13 (by decide) ?_
      exact fr_zret C hP hS rfl h dX2_has_17

/-! X2.product -/
abbrev wm_X2_product : List Cond := Cond.code yX2_product cX2_product 3 (some .int) :: wsL_law
def q_X2_product (t : fcS) (k : Nat) (a0 : Int32) (a1 : Int32) (post : Int32 → fcS → Prop) : Prop := (a0 = 0 → (post 0 t)) ∧ (¬ a0 = 0 → ((¬ a1 = 0 → (q_X4_at t ((k + 2)) 343 a0 (fun (r2 : Int32) (t1 : fcS) => q_X4_at t1 ((k + 2)) 343 a1 (fun (r4 : Int32) (t3 : fcS) => (¬ ((fgi t3 k 6) : Int32) = 0) ∧ (q_X4_at t3 ((k + 1)) 343 ((irm ((r2 + r4)) ((fgi t3 k 6)))) (fun (r6 : Int32) (t5 : fcS) => post r6 t5)))))) ∧ (a1 = 0 → (post 0 t))))
set_option maxHeartbeats 4000000 in
set_option maxRecDepth 100000 in
theorem c_X2_product (l : Launch) (D : va_G) (adr : Nat → Nat) (cs : Nat → ClassId) {N : Nat} (hN : 53 ≤ N) (t : fcS) (k : Nat) (hk : fisF k) (a0 : Int32) (a1 : Int32) (post : Int32 → fcS → Prop) (h : q_X2_product t k a0 a1 post) : Met l yX2_product wm_X2_product ({ frames := 1, cells := 0, slots := 0, locals := 21 } : Room) (fcPre D adr cs N t [.ref (adr k), .int a0, .int a1]) (fQi D adr cs N post) 0 0 (faN adr N) := by
  refine f_enter (cc := cX2_product) (nL := 3) (ret := some .int) (lv := [(0, .ref (adr k)), (1, .int a0), (2, .int a1)]) (own := RX2) (by decide) rfl (Nat.le_of_ble_eq_true rfl) rfl rfl ?_
  intro p e s m below meth c ls C hP hS hl
  have hx := C.1.1
  have hb := C.1.2.1
  unfold q_X2_product at h
  refine lv_iload_n hx hb dX2_product_0 rfl (lv_at hl 1 rfl) ?_
  refine lv_if_eq (tgt := 8) hx hb dX2_product_1 (by decide) (fun c9 => ?_) (fun c9 => ?_)
  · replace h := h.1 c9
    refine lv_iconst (v := 0) hx hb dX2_product_8 (by decide) ?_
    exact fr_iret C hP hS h dX2_product_9
  · replace h := h.2 c9
    refine lv_iload_n hx hb dX2_product_4 rfl (lv_at hl 2 rfl) ?_
    refine lv_if_ne (tgt := 10) hx hb dX2_product_5 (by decide) (fun c9 => ?_) (fun c9 => ?_)
    · replace h := h.1 c9
      refine lv_aload_n hx hb dX2_product_10 rfl (lv_at hl 0 rfl) ?_
      refine fr_get (j := 2) C hP (by have := hk.2.1; omega) (fG_FI adr cs t hk) rfl (fun w h => List.mem_cons_of_mem _ (inl_X2 w h)) (by decide) rfl (List.mem_cons_of_mem _ mw_2_13) rfl dX2_product_11 ?_
      refine lv_aload_n hx hb dX2_product_14 rfl (lv_at hl 0 rfl) ?_
      refine fr_get (j := 3) C hP (by have := hk.2.1; omega) (fG_FI adr cs t hk) rfl (fun w h => List.mem_cons_of_mem _ (inl_X2 w h)) (by decide) rfl (List.mem_cons_of_mem _ mw_2_14) rfl dX2_product_15 ?_
      refine lv_iload_n hx hb dX2_product_18 rfl (lv_at hl 1 rfl) ?_
      refine fr_ci (fr_runN (n := 2) (rest := [.ref (adr ((k + 1)))]) C (c_X4_at l D adr cs hN t ((k + 2)) 343 (fun u => ((fun u => fG_FE adr cs u hk) u)) (by have := hk.2.1; have := hk.2.2; omega) a0 _ h) hP hS (by decide +kernel) (fgN mw_6_20) rfl rfl rfl (List.mem_cons_of_mem _ mw_1_2) (List.mem_cons_of_mem _ mw_6_19) (by decide +kernel) ⟨Nat.le_of_ble_eq_true rfl, Nat.le_of_ble_eq_true rfl⟩ rfl hl.1 rfl (Nat.le_of_ble_eq_true rfl) dX2_product_19) hS (fun r2 t1 H locs h hP hS => ?_)
      refine lv_aload_n hx hb dX2_product_22 rfl (lv_at hl 0 rfl) ?_
      refine fr_get (j := 3) C hP (by have := hk.2.1; omega) (fG_FI adr cs t1 hk) rfl (fun w h => List.mem_cons_of_mem _ (inl_X2 w h)) (by decide) rfl (List.mem_cons_of_mem _ mw_2_14) rfl dX2_product_23 ?_
      refine lv_iload_n hx hb dX2_product_26 rfl (lv_at hl 2 rfl) ?_
      refine fr_ci (fr_runN (n := 2) (rest := [.int r2, .ref (adr ((k + 1)))]) C (c_X4_at l D adr cs hN t1 ((k + 2)) 343 (fun u => ((fun u => fG_FE adr cs u hk) u)) (by have := hk.2.1; have := hk.2.2; omega) a1 _ h) hP hS (by decide +kernel) (fgN mw_6_20) rfl rfl rfl (List.mem_cons_of_mem _ mw_1_2) (List.mem_cons_of_mem _ mw_6_19) (by decide +kernel) ⟨Nat.le_of_ble_eq_true rfl, Nat.le_of_ble_eq_true rfl⟩ rfl hl.1 rfl (Nat.le_of_ble_eq_true rfl) dX2_product_27) hS (fun r4 t3 H locs h hP hS => ?_)
      refine lv_iadd hx hb dX2_product_30 ?_
      refine lv_aload_n hx hb dX2_product_31 rfl (lv_at hl 0 rfl) ?_
      refine fr_get (j := 6) C hP (by have := hk.2.1; omega) (fG_FI adr cs t3 hk) rfl (fun w h => List.mem_cons_of_mem _ (inl_X2 w h)) (by decide) rfl (List.mem_cons_of_mem _ mw_2_17) rfl dX2_product_32 ?_
      refine lv_irem hx hb dX2_product_35 h.1 ?_
      replace h := h.2
      refine fr_ci (fr_runN (n := 2) (rest := []) C (c_X4_at l D adr cs hN t3 ((k + 1)) 343 (fun u => ((fun u => fG_FP adr cs u hk) u)) (by have := hk.2.1; have := hk.2.2; omega) ((irm ((r2 + r4)) ((fgi t3 k 6)))) _ h) hP hS (by decide +kernel) (fgN mw_6_20) rfl rfl rfl (List.mem_cons_of_mem _ mw_1_2) (List.mem_cons_of_mem _ mw_6_19) (by decide +kernel) ⟨Nat.le_of_ble_eq_true rfl, Nat.le_of_ble_eq_true rfl⟩ rfl hl.1 rfl (Nat.le_of_ble_eq_true rfl) dX2_product_36) hS (fun r6 t5 H locs h hP hS => ?_)
      exact fr_iret C hP hS h dX2_product_39
    · replace h := h.2 c9
      refine lv_iconst (v := 0) hx hb dX2_product_8 (by decide) ?_
      exact fr_iret C hP hS h dX2_product_9

/-! X2.power -/
abbrev wm_X2_power : List Cond := Cond.code yX2_power cX2_power 3 (some .int) :: wsL_law
def q_X2_power (t : fcS) (k : Nat) (a0 : Int32) (a1 : Int32) (post : Int32 → fcS → Prop) : Prop := (¬ a1 = 0 → ((¬ a0 = 0 → (q_X4_at t ((k + 2)) 343 a0 (fun (r2 : Int32) (t1 : fcS) => (¬ ((Int32.toInt64 ((fgi t1 k 6))) : Int64) = 0) ∧ (q_X4_at t1 ((k + 1)) 343 ((Int64.toInt32 ((lrm (((Int32.toInt64 r2) * (Int32.toInt64 a1))) ((Int32.toInt64 ((fgi t1 k 6)))))))) (fun (r4 : Int32) (t3 : fcS) => post r4 t3))))) ∧ (a0 = 0 → (post 0 t)))) ∧ (a1 = 0 → (post 1 t))
set_option maxHeartbeats 4000000 in
set_option maxRecDepth 100000 in
theorem c_X2_power (l : Launch) (D : va_G) (adr : Nat → Nat) (cs : Nat → ClassId) {N : Nat} (hN : 53 ≤ N) (t : fcS) (k : Nat) (hk : fisF k) (a0 : Int32) (a1 : Int32) (post : Int32 → fcS → Prop) (h : q_X2_power t k a0 a1 post) : Met l yX2_power wm_X2_power ({ frames := 1, cells := 0, slots := 0, locals := 21 } : Room) (fcPre D adr cs N t [.ref (adr k), .int a0, .int a1]) (fQi D adr cs N post) 0 0 (faN adr N) := by
  refine f_enter (cc := cX2_power) (nL := 3) (ret := some .int) (lv := [(0, .ref (adr k)), (1, .int a0), (2, .int a1)]) (own := RX2) (by decide) rfl (Nat.le_of_ble_eq_true rfl) rfl rfl ?_
  intro p e s m below meth c ls C hP hS hl
  have hx := C.1.1
  have hb := C.1.2.1
  unfold q_X2_power at h
  refine lv_iload_n hx hb dX2_power_0 rfl (lv_at hl 2 rfl) ?_
  refine lv_if_ne (tgt := 6) hx hb dX2_power_1 (by decide) (fun c9 => ?_) (fun c9 => ?_)
  · replace h := h.1 c9
    refine lv_iload_n hx hb dX2_power_6 rfl (lv_at hl 1 rfl) ?_
    refine lv_if_ne (tgt := 14) hx hb dX2_power_7 (by decide) (fun c9 => ?_) (fun c9 => ?_)
    · replace h := h.1 c9
      refine lv_aload_n hx hb dX2_power_14 rfl (lv_at hl 0 rfl) ?_
      refine fr_get (j := 2) C hP (by have := hk.2.1; omega) (fG_FI adr cs t hk) rfl (fun w h => List.mem_cons_of_mem _ (inl_X2 w h)) (by decide) rfl (List.mem_cons_of_mem _ mw_2_13) rfl dX2_power_15 ?_
      refine lv_aload_n hx hb dX2_power_18 rfl (lv_at hl 0 rfl) ?_
      refine fr_get (j := 3) C hP (by have := hk.2.1; omega) (fG_FI adr cs t hk) rfl (fun w h => List.mem_cons_of_mem _ (inl_X2 w h)) (by decide) rfl (List.mem_cons_of_mem _ mw_2_14) rfl dX2_power_19 ?_
      refine lv_iload_n hx hb dX2_power_22 rfl (lv_at hl 1 rfl) ?_
      refine fr_ci (fr_runN (n := 2) (rest := [.ref (adr ((k + 1)))]) C (c_X4_at l D adr cs hN t ((k + 2)) 343 (fun u => ((fun u => fG_FE adr cs u hk) u)) (by have := hk.2.1; have := hk.2.2; omega) a0 _ h) hP hS (by decide +kernel) (fgN mw_6_20) rfl rfl rfl (List.mem_cons_of_mem _ mw_1_2) (List.mem_cons_of_mem _ mw_6_19) (by decide +kernel) ⟨Nat.le_of_ble_eq_true rfl, Nat.le_of_ble_eq_true rfl⟩ rfl hl.1 rfl (Nat.le_of_ble_eq_true rfl) dX2_power_23) hS (fun r2 t1 H locs h hP hS => ?_)
      refine lv_i2l hx hb dX2_power_26 rfl ?_
      refine lv_iload_n hx hb dX2_power_27 rfl (lv_at hl 2 rfl) ?_
      refine lv_i2l hx hb dX2_power_28 rfl ?_
      refine lv_lmul hx hb dX2_power_29 ?_
      refine lv_aload_n hx hb dX2_power_30 rfl (lv_at hl 0 rfl) ?_
      refine fr_get (j := 6) C hP (by have := hk.2.1; omega) (fG_FI adr cs t1 hk) rfl (fun w h => List.mem_cons_of_mem _ (inl_X2 w h)) (by decide) rfl (List.mem_cons_of_mem _ mw_2_17) rfl dX2_power_31 ?_
      refine lv_i2l hx hb dX2_power_34 rfl ?_
      refine lv_lrem hx hb dX2_power_35 h.1 ?_
      replace h := h.2
      refine lv_l2i hx hb dX2_power_36 rfl ?_
      refine fr_ci (fr_runN (n := 2) (rest := []) C (c_X4_at l D adr cs hN t1 ((k + 1)) 343 (fun u => ((fun u => fG_FP adr cs u hk) u)) (by have := hk.2.1; have := hk.2.2; omega) ((Int64.toInt32 ((lrm (((Int32.toInt64 r2) * (Int32.toInt64 a1))) ((Int32.toInt64 ((fgi t1 k 6)))))))) _ h) hP hS (by decide +kernel) (fgN mw_6_20) rfl rfl rfl (List.mem_cons_of_mem _ mw_1_2) (List.mem_cons_of_mem _ mw_6_19) (by decide +kernel) ⟨Nat.le_of_ble_eq_true rfl, Nat.le_of_ble_eq_true rfl⟩ rfl hl.1 rfl (Nat.le_of_ble_eq_true rfl) dX2_power_37) hS (fun r4 t3 H locs h hP hS => ?_)
      exact fr_iret C hP hS h dX2_power_40
    · replace h := h.2 c9
      refine lv_iconst (v := 0) hx hb dX2_power_10 (by decide) ?_
      refine lv_goto (tgt := 40) hx hb dX2_power_11 (by decide) ?_
      exact fr_iret C hP hS h dX2_power_40
  · replace h := h.2 c9
    refine lv_iconst (v := 1) hx hb dX2_power_4 (by decide) ?_
    exact fr_iret C hP hS h dX2_power_5

/-! X2.squareSign -/
abbrev wm_X2_squareSign : List Cond := Cond.code yX2_squareSign cX2_squareSign 2 (some .int) :: wsL_law
def q_X2_squareSign (t : fcS) (k : Nat) (a0 : Int32) (post : Int32 → fcS → Prop) : Prop := (¬ a0 = 0 → (q_X4_at t ((k + 2)) 343 a0 (fun (r2 : Int32) (t1 : fcS) => (¬ (2 : Int32) = 0) ∧ ((¬ (irm r2 2) = 0 → (post ((-1)) t1)) ∧ ((irm r2 2) = 0 → (post 1 t1)))))) ∧ (a0 = 0 → (post 0 t))
set_option maxHeartbeats 4000000 in
set_option maxRecDepth 100000 in
theorem c_X2_squareSign (l : Launch) (D : va_G) (adr : Nat → Nat) (cs : Nat → ClassId) {N : Nat} (hN : 53 ≤ N) (t : fcS) (k : Nat) (hk : fisF k) (a0 : Int32) (post : Int32 → fcS → Prop) (h : q_X2_squareSign t k a0 post) : Met l yX2_squareSign wm_X2_squareSign ({ frames := 1, cells := 0, slots := 0, locals := 21 } : Room) (fcPre D adr cs N t [.ref (adr k), .int a0]) (fQi D adr cs N post) 0 0 (faN adr N) := by
  refine f_enter (cc := cX2_squareSign) (nL := 2) (ret := some .int) (lv := [(0, .ref (adr k)), (1, .int a0)]) (own := RX2) (by decide) rfl (Nat.le_of_ble_eq_true rfl) rfl rfl ?_
  intro p e s m below meth c ls C hP hS hl
  have hx := C.1.1
  have hb := C.1.2.1
  unfold q_X2_squareSign at h
  refine lv_iload_n hx hb dX2_squareSign_0 rfl (lv_at hl 1 rfl) ?_
  refine lv_if_ne (tgt := 6) hx hb dX2_squareSign_1 (by decide) (fun c9 => ?_) (fun c9 => ?_)
  · replace h := h.1 c9
    refine lv_aload_n hx hb dX2_squareSign_6 rfl (lv_at hl 0 rfl) ?_
    refine fr_get (j := 3) C hP (by have := hk.2.1; omega) (fG_FI adr cs t hk) rfl (fun w h => List.mem_cons_of_mem _ (inl_X2 w h)) (by decide) rfl (List.mem_cons_of_mem _ mw_2_14) rfl dX2_squareSign_7 ?_
    refine lv_iload_n hx hb dX2_squareSign_10 rfl (lv_at hl 1 rfl) ?_
    refine fr_ci (fr_runN (n := 2) (rest := []) C (c_X4_at l D adr cs hN t ((k + 2)) 343 (fun u => ((fun u => fG_FE adr cs u hk) u)) (by have := hk.2.1; have := hk.2.2; omega) a0 _ h) hP hS (by decide +kernel) (fgN mw_6_20) rfl rfl rfl (List.mem_cons_of_mem _ mw_1_2) (List.mem_cons_of_mem _ mw_6_19) (by decide +kernel) ⟨Nat.le_of_ble_eq_true rfl, Nat.le_of_ble_eq_true rfl⟩ rfl hl.1 rfl (Nat.le_of_ble_eq_true rfl) dX2_squareSign_11) hS (fun r2 t1 H locs h hP hS => ?_)
    refine lv_iconst (v := 2) hx hb dX2_squareSign_14 (by decide) ?_
    refine lv_irem hx hb dX2_squareSign_15 h.1 ?_
    replace h := h.2
    refine lv_if_ne (tgt := 23) hx hb dX2_squareSign_16 (by decide) (fun c9 => ?_) (fun c9 => ?_)
    · replace h := h.1 c9
      refine lv_iconst (v := (-1)) hx hb dX2_squareSign_23 (by decide) ?_
      exact fr_iret C hP hS h dX2_squareSign_24
    · replace h := h.2 c9
      refine lv_iconst (v := 1) hx hb dX2_squareSign_19 (by decide) ?_
      refine lv_goto (tgt := 24) hx hb dX2_squareSign_20 (by decide) ?_
      exact fr_iret C hP hS h dX2_squareSign_24
  · replace h := h.2 c9
    refine lv_iconst (v := 0) hx hb dX2_squareSign_4 (by decide) ?_
    exact fr_iret C hP hS h dX2_squareSign_5

/-! X2.turnsOf -/
abbrev wm_X2_turnsOf : List Cond := Cond.code yX2_turnsOf cX2_turnsOf 3 (some .int) :: wsL_law
def q_X2_turnsOf_2 (k : Nat) (post : Int32 → fcS → Prop) : Nat → Int32 → Int32 → fcS → Prop
  | 0, _, _, _ => False
  | n + 1, v1, v2, t => ((fgi t k 6) ≤ v2 → (post v2 t)) ∧ (¬ (fgi t k 6) ≤ v2 → (q_X4_at t ((k + 2)) 343 v1 (fun (r2 : Int32) (t1 : fcS) => (¬ ((fgi t1 k 6) : Int32) = 0) ∧ (((irm ((r2 * v2)) ((fgi t1 k 6))) = 0 → (post v2 t1)) ∧ (¬ (irm ((r2 * v2)) ((fgi t1 k 6))) = 0 → (∀ x3 : Int32, x3 = v2 + 1 → (q_X2_turnsOf_2 k post n v1 x3 t1)))))))
def q_X2_turnsOf (t : fcS) (k : Nat) (a0 : Int32) (post : Int32 → fcS → Prop) : Prop := ∃ n0, q_X2_turnsOf_2 k post n0 a0 1 t
set_option maxHeartbeats 4000000 in
set_option maxRecDepth 100000 in
theorem k_X2_turnsOf_2 {D : va_G} {adr : Nat → Nat} {cs : Nat → ClassId} {N : Nat} (hN : 53 ≤ N) {p : Program} {l : Launch} {e : Env} {s : State} {m : MethodId} {args : Array Value} {below : List Frame} {meth : Method} {c : Code} (C : fCx D adr cs N p s m args meth c cX2_turnsOf 3 (some .int) RX2 wm_X2_turnsOf) (k : Nat) (hk : fisF k) {post : Int32 → fcS → Prop} : ∀ (n : Nat) (v1 : Int32) (v2 : Int32) (t : fcS) (H : Heap) (locs : List Loc) (ls : Array Slot), q_X2_turnsOf_2 k post n v1 v2 t → va_P D vwCl (fwl adr N (fG adr cs t)) H → va_S (faN adr N) s.heap H locs → lv_has ls 3 [(0, .ref (adr k)), (1, .int v1), (2, .int v2)] → W p l e ({ frames := 1, cells := 0, slots := 0, locals := 21 } : Room) s m args below meth c H locs 0 0 (MQ below (fQi D adr cs N post) args s 0 0 (faN adr N)) (F0 m 2 ls []) := by
  have hx := C.1.1
  have hb := C.1.2.1
  intro n
  induction n with
  | zero => intro v1 v2 t H locs ls h; exact False.elim h
  | succ n ih =>
    intro v1 v2 t H locs ls h hP hS hl
    unfold q_X2_turnsOf_2 at h
    refine lv_iload_n hx hb dX2_turnsOf_2 rfl (lv_at hl 2 rfl) ?_
    refine lv_aload_n hx hb dX2_turnsOf_3 rfl (lv_at hl 0 rfl) ?_
    refine fr_get (j := 6) C hP (by have := hk.2.1; omega) (fG_FI adr cs t hk) rfl (fun w h => List.mem_cons_of_mem _ (inl_X2 w h)) (by decide) rfl (List.mem_cons_of_mem _ mw_2_17) rfl dX2_turnsOf_4 ?_
    refine lv_icmp_ge (tgt := 34) hx hb dX2_turnsOf_7 (by decide) (fun c9 => ?_) (fun c9 => ?_)
    · replace h := h.1 c9
      refine lv_iload_n hx hb dX2_turnsOf_34 rfl (lv_at hl 2 rfl) ?_
      exact fr_iret C hP hS h dX2_turnsOf_35
    · replace h := h.2 c9
      refine lv_aload_n hx hb dX2_turnsOf_10 rfl (lv_at hl 0 rfl) ?_
      refine fr_get (j := 3) C hP (by have := hk.2.1; omega) (fG_FI adr cs t hk) rfl (fun w h => List.mem_cons_of_mem _ (inl_X2 w h)) (by decide) rfl (List.mem_cons_of_mem _ mw_2_14) rfl dX2_turnsOf_11 ?_
      refine lv_iload_n hx hb dX2_turnsOf_14 rfl (lv_at hl 1 rfl) ?_
      refine fr_ci (fr_runN (n := 2) (rest := []) C (c_X4_at l D adr cs hN t ((k + 2)) 343 (fun u => ((fun u => fG_FE adr cs u hk) u)) (by have := hk.2.1; have := hk.2.2; omega) v1 _ h) hP hS (by decide +kernel) (fgN mw_6_20) rfl rfl rfl (List.mem_cons_of_mem _ mw_1_2) (List.mem_cons_of_mem _ mw_6_19) (by decide +kernel) ⟨Nat.le_of_ble_eq_true rfl, Nat.le_of_ble_eq_true rfl⟩ rfl hl.1 rfl (Nat.le_of_ble_eq_true rfl) dX2_turnsOf_15) hS (fun r2 t1 H locs h hP hS => ?_)
      refine lv_iload_n hx hb dX2_turnsOf_18 rfl (lv_at hl 2 rfl) ?_
      refine lv_imul hx hb dX2_turnsOf_19 ?_
      refine lv_aload_n hx hb dX2_turnsOf_20 rfl (lv_at hl 0 rfl) ?_
      refine fr_get (j := 6) C hP (by have := hk.2.1; omega) (fG_FI adr cs t1 hk) rfl (fun w h => List.mem_cons_of_mem _ (inl_X2 w h)) (by decide) rfl (List.mem_cons_of_mem _ mw_2_17) rfl dX2_turnsOf_21 ?_
      refine lv_irem hx hb dX2_turnsOf_24 h.1 ?_
      replace h := h.2
      refine lv_if_eq (tgt := 34) hx hb dX2_turnsOf_25 (by decide) (fun c9 => ?_) (fun c9 => ?_)
      · replace h := h.1 c9
        refine lv_iload_n hx hb dX2_turnsOf_34 rfl (lv_at hl 2 rfl) ?_
        exact fr_iret C hP hS h dX2_turnsOf_35
      · replace h := h.2 c9
        obtain ⟨x3, ex3⟩ : ∃ y : Int32, y = v2 + 1 := ⟨_, rfl⟩
        replace h := h x3 ex3
        refine lv_iinc (v := x3) (lv' := [(2, .int x3), (0, .ref (adr k)), (1, .int v1)]) hx hb dX2_turnsOf_28 hl (k := 2) rfl (by rw [ex3]; rfl) (by decide) rfl (fun ls hl => ?_)
        refine lv_goto (tgt := 2) hx hb dX2_turnsOf_31 (by decide) ?_
        exact ih v1 x3 t1 _ _ _ h hP hS (lv_sub hl [1, 2, 0] rfl)

set_option maxHeartbeats 4000000 in
set_option maxRecDepth 100000 in
theorem c_X2_turnsOf (l : Launch) (D : va_G) (adr : Nat → Nat) (cs : Nat → ClassId) {N : Nat} (hN : 53 ≤ N) (t : fcS) (k : Nat) (hk : fisF k) (a0 : Int32) (post : Int32 → fcS → Prop) (h : q_X2_turnsOf t k a0 post) : Met l yX2_turnsOf wm_X2_turnsOf ({ frames := 1, cells := 0, slots := 0, locals := 21 } : Room) (fcPre D adr cs N t [.ref (adr k), .int a0]) (fQi D adr cs N post) 0 0 (faN adr N) := by
  refine f_enter (cc := cX2_turnsOf) (nL := 3) (ret := some .int) (lv := [(0, .ref (adr k)), (1, .int a0)]) (own := RX2) (by decide) rfl (Nat.le_of_ble_eq_true rfl) rfl rfl ?_
  intro p e s m below meth c ls C hP hS hl
  have hx := C.1.1
  have hb := C.1.2.1
  unfold q_X2_turnsOf at h
  refine lv_iconst (v := 1) hx hb dX2_turnsOf_0 (by decide) ?_
  refine lv_istore_n (lv' := [(2, .int 1), (0, .ref (adr k)), (1, .int a0)]) hx hb dX2_turnsOf_1 rfl hl (by decide) rfl (fun ls hl => ?_)
  obtain ⟨n9, h⟩ := h
  exact k_X2_turnsOf_2 hN C k hk n9 a0 1 t _ _ _ h hP hS (lv_sub hl [1, 2, 0] rfl)

/-! X2.valueOf -/
abbrev wm_X2_valueOf : List Cond := Cond.code yX2_valueOf cX2_valueOf 5 (some .int) :: wsL_law
def q_X2_valueOf_12 (k : Nat) (post : Int32 → fcS → Prop) : Nat → Int32 → Int32 → Int32 → Int32 → fcS → Prop
  | 0, _, _, _, _, _ => False
  | n + 1, v1, v2, v3, v4, t => (v4 < 0 → (post v3 t)) ∧ (¬ v4 < 0 → (q_X2_product t k v3 v2 (fun (r4 : Int32) (t3 : fcS) => q_X3_coefficient t3 v1 v4 (fun (r6 : Int32) (t5 : fcS) => q_X3_sum t5 r4 r6 (fun (r8 : Int32) (t7 : fcS) => ∀ x9 : Int32, x9 = v4 + (-1) → (q_X2_valueOf_12 k post n v1 v2 r8 x9 t7))))))
def q_X2_valueOf (t : fcS) (k : Nat) (a0 : Int32) (a1 : Int32) (post : Int32 → fcS → Prop) : Prop := q_X3_degree t a0 (fun (r2 : Int32) (t1 : fcS) => ∃ n0, q_X2_valueOf_12 k post n0 a0 a1 0 r2 t1)
set_option maxHeartbeats 4000000 in
set_option maxRecDepth 100000 in
theorem k_X2_valueOf_12 {D : va_G} {adr : Nat → Nat} {cs : Nat → ClassId} {N : Nat} (hN : 53 ≤ N) {p : Program} {l : Launch} {e : Env} {s : State} {m : MethodId} {args : Array Value} {below : List Frame} {meth : Method} {c : Code} (C : fCx D adr cs N p s m args meth c cX2_valueOf 5 (some .int) RX2 wm_X2_valueOf) (k : Nat) (hk : fisF k) {post : Int32 → fcS → Prop} : ∀ (n : Nat) (v1 : Int32) (v2 : Int32) (v3 : Int32) (v4 : Int32) (t : fcS) (H : Heap) (locs : List Loc) (ls : Array Slot), q_X2_valueOf_12 k post n v1 v2 v3 v4 t → va_P D vwCl (fwl adr N (fG adr cs t)) H → va_S (faN adr N) s.heap H locs → lv_has ls 5 [(0, .ref (adr k)), (1, .int v1), (2, .int v2), (3, .int v3), (4, .int v4)] → W p l e ({ frames := 2, cells := 0, slots := 0, locals := 43 } : Room) s m args below meth c H locs 0 0 (MQ below (fQi D adr cs N post) args s 0 0 (faN adr N)) (F0 m 12 ls []) := by
  have hx := C.1.1
  have hb := C.1.2.1
  intro n
  induction n with
  | zero => intro v1 v2 v3 v4 t H locs ls h; exact False.elim h
  | succ n ih =>
    intro v1 v2 v3 v4 t H locs ls h hP hS hl
    unfold q_X2_valueOf_12 at h
    refine lv_iload hx hb dX2_valueOf_12 (lv_at hl 4 rfl) ?_
    refine lv_if_lt (tgt := 47) hx hb dX2_valueOf_14 (by decide) (fun c9 => ?_) (fun c9 => ?_)
    · replace h := h.1 c9
      refine lv_iload_n hx hb dX2_valueOf_47 rfl (lv_at hl 3 rfl) ?_
      exact fr_iret C hP hS h dX2_valueOf_48
    · replace h := h.2 c9
      refine lv_aload_n hx hb dX2_valueOf_17 rfl (lv_at hl 0 rfl) ?_
      refine fr_get (j := 0) C hP (by have := hk.2.1; omega) (fG_FI adr cs t hk) rfl (fun w h => List.mem_cons_of_mem _ (inl_X2 w h)) (by decide) rfl (List.mem_cons_of_mem _ mw_2_19) rfl dX2_valueOf_18 ?_
      refine lv_aload_n hx hb dX2_valueOf_21 rfl (lv_at hl 0 rfl) ?_
      refine lv_iload_n hx hb dX2_valueOf_22 rfl (lv_at hl 3 rfl) ?_
      refine lv_iload_n hx hb dX2_valueOf_23 rfl (lv_at hl 2 rfl) ?_
      refine fr_ci (fr_runV (n := 2) (rest := [.ref (adr 1)]) C (c_X2_product l D adr cs hN t k hk v3 v2 _ h) hP hS (by have := hk.2.1; omega) (fG_FI adr cs t hk) rfl (fgV mw_21_2 mw_12_16 mw_12_17 mw_2_2 mw_12_18) rfl rfl rfl (by decide +kernel) ⟨Nat.le_of_ble_eq_true rfl, Nat.le_of_ble_eq_true rfl⟩ rfl hl.1 rfl (Nat.le_of_ble_eq_true rfl) dX2_valueOf_24) hS (fun r4 t3 H locs h hP hS => ?_)
      refine lv_aload_n hx hb dX2_valueOf_27 rfl (lv_at hl 0 rfl) ?_
      refine fr_get (j := 0) C hP (by have := hk.2.1; omega) (fG_FI adr cs t3 hk) rfl (fun w h => List.mem_cons_of_mem _ (inl_X2 w h)) (by decide) rfl (List.mem_cons_of_mem _ mw_2_19) rfl dX2_valueOf_28 ?_
      refine lv_iload_n hx hb dX2_valueOf_31 rfl (lv_at hl 1 rfl) ?_
      refine lv_iload hx hb dX2_valueOf_32 (lv_at hl 4 rfl) ?_
      refine fr_ci (fr_runV (n := 2) (rest := [.int r4, .ref (adr 1)]) C (c_X3_coefficient l D adr cs hN t3 v1 v4 _ h) hP hS (by omega) (fG_PO adr cs t3) rfl (fgV mw_21_3 mw_5_17 mw_5_18 mw_1_14 mw_5_19) rfl rfl rfl (by decide +kernel) ⟨Nat.le_of_ble_eq_true rfl, Nat.le_of_ble_eq_true rfl⟩ rfl hl.1 rfl (Nat.le_of_ble_eq_true rfl) dX2_valueOf_34) hS (fun r6 t5 H locs h hP hS => ?_)
      refine fr_ci (fr_runV (n := 2) (rest := []) C (c_X3_sum l D adr cs hN t5 r4 r6 _ h) hP hS (by omega) (fG_PO adr cs t5) rfl (fgV mw_21_4 mw_6_15 mw_6_16 mw_1_14 mw_6_17) rfl rfl rfl (by decide +kernel) ⟨Nat.le_of_ble_eq_true rfl, Nat.le_of_ble_eq_true rfl⟩ rfl hl.1 rfl (Nat.le_of_ble_eq_true rfl) dX2_valueOf_37) hS (fun r8 t7 H locs h hP hS => ?_)
      refine lv_istore_n (lv' := [(3, .int r8), (0, .ref (adr k)), (1, .int v1), (2, .int v2), (4, .int v4)]) hx hb dX2_valueOf_40 rfl hl (by decide) rfl (fun ls hl => ?_)
      obtain ⟨x9, ex9⟩ : ∃ y : Int32, y = v4 + (-1) := ⟨_, rfl⟩
      replace h := h x9 ex9
      refine lv_iinc (v := x9) (lv' := [(4, .int x9), (3, .int r8), (0, .ref (adr k)), (1, .int v1), (2, .int v2)]) hx hb dX2_valueOf_41 hl (k := 4) rfl (by rw [ex9]; rfl) (by decide) rfl (fun ls hl => ?_)
      refine lv_goto (tgt := 12) hx hb dX2_valueOf_44 (by decide) ?_
      exact ih v1 v2 r8 x9 t7 _ _ _ h hP hS (lv_sub hl [2, 3, 4, 1, 0] rfl)

set_option maxHeartbeats 4000000 in
set_option maxRecDepth 100000 in
theorem c_X2_valueOf (l : Launch) (D : va_G) (adr : Nat → Nat) (cs : Nat → ClassId) {N : Nat} (hN : 53 ≤ N) (t : fcS) (k : Nat) (hk : fisF k) (a0 : Int32) (a1 : Int32) (post : Int32 → fcS → Prop) (h : q_X2_valueOf t k a0 a1 post) : Met l yX2_valueOf wm_X2_valueOf ({ frames := 2, cells := 0, slots := 0, locals := 43 } : Room) (fcPre D adr cs N t [.ref (adr k), .int a0, .int a1]) (fQi D adr cs N post) 0 0 (faN adr N) := by
  refine f_enter (cc := cX2_valueOf) (nL := 5) (ret := some .int) (lv := [(0, .ref (adr k)), (1, .int a0), (2, .int a1)]) (own := RX2) (by decide) rfl (Nat.le_of_ble_eq_true rfl) rfl rfl ?_
  intro p e s m below meth c ls C hP hS hl
  have hx := C.1.1
  have hb := C.1.2.1
  unfold q_X2_valueOf at h
  refine lv_iconst (v := 0) hx hb dX2_valueOf_0 (by decide) ?_
  refine lv_istore_n (lv' := [(3, .int 0), (0, .ref (adr k)), (1, .int a0), (2, .int a1)]) hx hb dX2_valueOf_1 rfl hl (by decide) rfl (fun ls hl => ?_)
  refine lv_aload_n hx hb dX2_valueOf_2 rfl (lv_at hl 1 rfl) ?_
  refine fr_get (j := 0) C hP (by have := hk.2.1; omega) (fG_FI adr cs t hk) rfl (fun w h => List.mem_cons_of_mem _ (inl_X2 w h)) (by decide) rfl (List.mem_cons_of_mem _ mw_2_19) rfl dX2_valueOf_3 ?_
  refine lv_iload_n hx hb dX2_valueOf_6 rfl (lv_at hl 2 rfl) ?_
  refine fr_ci (fr_runV (n := 1) (rest := []) C (c_X3_degree l D adr cs hN t a0 _ h) hP hS (by omega) (fG_PO adr cs t) rfl (fgV mw_21_1 mw_5_5 mw_5_6 mw_1_14 mw_5_7) rfl rfl rfl (by decide +kernel) ⟨Nat.le_of_ble_eq_true rfl, Nat.le_of_ble_eq_true rfl⟩ rfl hl.1 rfl (Nat.le_of_ble_eq_true rfl) dX2_valueOf_7) hS (fun r2 t1 H locs h hP hS => ?_)
  refine lv_istore (lv' := [(4, .int r2), (3, .int 0), (0, .ref (adr k)), (1, .int a0), (2, .int a1)]) hx hb dX2_valueOf_10 hl (by decide) rfl (fun ls hl => ?_)
  obtain ⟨n9, h⟩ := h
  exact k_X2_valueOf_12 hN C k hk n9 a0 a1 0 r2 t1 _ _ _ h hP hS (lv_sub hl [2, 3, 4, 1, 0] rfl)

/-! X2.signSum -/
abbrev wm_X2_signSum : List Cond := Cond.code yX2_signSum cX2_signSum 4 (some .int) :: wsL_law
def q_X2_signSum_4 (k : Nat) (post : Int32 → fcS → Prop) : Nat → Int32 → Int32 → Int32 → fcS → Prop
  | 0, _, _, _, _ => False
  | n + 1, v1, v2, v3, t => ((fgi t k 5) ≤ v3 → (post v2 t)) ∧ (¬ (fgi t k 5) ≤ v3 → (q_X2_valueOf t k v1 v3 (fun (r2 : Int32) (t1 : fcS) => q_X2_squareSign t1 k r2 (fun (r4 : Int32) (t3 : fcS) => ∀ x5 : Int32, x5 = (v2 + r4) → (∀ x6 : Int32, x6 = v3 + 1 → (q_X2_signSum_4 k post n v1 x5 x6 t3))))))
def q_X2_signSum (t : fcS) (k : Nat) (a0 : Int32) (post : Int32 → fcS → Prop) : Prop := ∃ n0, q_X2_signSum_4 k post n0 a0 0 0 t
set_option maxHeartbeats 4000000 in
set_option maxRecDepth 100000 in
theorem k_X2_signSum_4 {D : va_G} {adr : Nat → Nat} {cs : Nat → ClassId} {N : Nat} (hN : 53 ≤ N) {p : Program} {l : Launch} {e : Env} {s : State} {m : MethodId} {args : Array Value} {below : List Frame} {meth : Method} {c : Code} (C : fCx D adr cs N p s m args meth c cX2_signSum 4 (some .int) RX2 wm_X2_signSum) (k : Nat) (hk : fisF k) {post : Int32 → fcS → Prop} : ∀ (n : Nat) (v1 : Int32) (v2 : Int32) (v3 : Int32) (t : fcS) (H : Heap) (locs : List Loc) (ls : Array Slot), q_X2_signSum_4 k post n v1 v2 v3 t → va_P D vwCl (fwl adr N (fG adr cs t)) H → va_S (faN adr N) s.heap H locs → lv_has ls 4 [(0, .ref (adr k)), (1, .int v1), (2, .int v2), (3, .int v3)] → W p l e ({ frames := 3, cells := 0, slots := 0, locals := 67 } : Room) s m args below meth c H locs 0 0 (MQ below (fQi D adr cs N post) args s 0 0 (faN adr N)) (F0 m 4 ls []) := by
  have hx := C.1.1
  have hb := C.1.2.1
  intro n
  induction n with
  | zero => intro v1 v2 v3 t H locs ls h; exact False.elim h
  | succ n ih =>
    intro v1 v2 v3 t H locs ls h hP hS hl
    unfold q_X2_signSum_4 at h
    refine lv_iload_n hx hb dX2_signSum_4 rfl (lv_at hl 3 rfl) ?_
    refine lv_aload_n hx hb dX2_signSum_5 rfl (lv_at hl 0 rfl) ?_
    refine fr_get (j := 5) C hP (by have := hk.2.1; omega) (fG_FI adr cs t hk) rfl (fun w h => List.mem_cons_of_mem _ (inl_X2 w h)) (by decide) rfl (List.mem_cons_of_mem _ mw_2_16) rfl dX2_signSum_6 ?_
    refine lv_icmp_ge (tgt := 31) hx hb dX2_signSum_9 (by decide) (fun c9 => ?_) (fun c9 => ?_)
    · replace h := h.1 c9
      refine lv_iload_n hx hb dX2_signSum_31 rfl (lv_at hl 2 rfl) ?_
      exact fr_iret C hP hS h dX2_signSum_32
    · replace h := h.2 c9
      refine lv_iload_n hx hb dX2_signSum_12 rfl (lv_at hl 2 rfl) ?_
      refine lv_aload_n hx hb dX2_signSum_13 rfl (lv_at hl 0 rfl) ?_
      refine lv_aload_n hx hb dX2_signSum_14 rfl (lv_at hl 0 rfl) ?_
      refine lv_iload_n hx hb dX2_signSum_15 rfl (lv_at hl 1 rfl) ?_
      refine lv_iload_n hx hb dX2_signSum_16 rfl (lv_at hl 3 rfl) ?_
      refine fr_ci (fr_runV (n := 2) (rest := [.ref (adr k), .int v2]) C (c_X2_valueOf l D adr cs hN t k hk v1 v3 _ h) hP hS (by have := hk.2.1; omega) (fG_FI adr cs t hk) rfl (fgV mw_22_4 mw_20_22 mw_20_23 mw_2_2 mw_21_0) rfl rfl rfl (by decide +kernel) ⟨Nat.le_of_ble_eq_true rfl, Nat.le_of_ble_eq_true rfl⟩ rfl hl.1 rfl (Nat.le_of_ble_eq_true rfl) dX2_signSum_17) hS (fun r2 t1 H locs h hP hS => ?_)
      refine fr_ci (fr_runV (n := 1) (rest := [.int v2]) C (c_X2_squareSign l D adr cs hN t1 k hk r2 _ h) hP hS (by have := hk.2.1; omega) (fG_FI adr cs t1 hk) rfl (fgV mw_22_5 mw_6_22 mw_6_23 mw_2_2 mw_7_0) rfl rfl rfl (by decide +kernel) ⟨Nat.le_of_ble_eq_true rfl, Nat.le_of_ble_eq_true rfl⟩ rfl hl.1 rfl (Nat.le_of_ble_eq_true rfl) dX2_signSum_20) hS (fun r4 t3 H locs h hP hS => ?_)
      refine lv_iadd hx hb dX2_signSum_23 ?_
      refine lv_topi (fun x5 ex5 => ?_)
      replace h := h x5 ex5
      refine lv_istore_n (lv' := [(2, .int x5), (0, .ref (adr k)), (1, .int v1), (3, .int v3)]) hx hb dX2_signSum_24 rfl hl (by decide) rfl (fun ls hl => ?_)
      obtain ⟨x6, ex6⟩ : ∃ y : Int32, y = v3 + 1 := ⟨_, rfl⟩
      replace h := h x6 ex6
      refine lv_iinc (v := x6) (lv' := [(3, .int x6), (2, .int x5), (0, .ref (adr k)), (1, .int v1)]) hx hb dX2_signSum_25 hl (k := 3) rfl (by rw [ex6]; rfl) (by decide) rfl (fun ls hl => ?_)
      refine lv_goto (tgt := 4) hx hb dX2_signSum_28 (by decide) ?_
      exact ih v1 x5 x6 t3 _ _ _ h hP hS (lv_sub hl [2, 3, 1, 0] rfl)

set_option maxHeartbeats 4000000 in
set_option maxRecDepth 100000 in
theorem c_X2_signSum (l : Launch) (D : va_G) (adr : Nat → Nat) (cs : Nat → ClassId) {N : Nat} (hN : 53 ≤ N) (t : fcS) (k : Nat) (hk : fisF k) (a0 : Int32) (post : Int32 → fcS → Prop) (h : q_X2_signSum t k a0 post) : Met l yX2_signSum wm_X2_signSum ({ frames := 3, cells := 0, slots := 0, locals := 67 } : Room) (fcPre D adr cs N t [.ref (adr k), .int a0]) (fQi D adr cs N post) 0 0 (faN adr N) := by
  refine f_enter (cc := cX2_signSum) (nL := 4) (ret := some .int) (lv := [(0, .ref (adr k)), (1, .int a0)]) (own := RX2) (by decide) rfl (Nat.le_of_ble_eq_true rfl) rfl rfl ?_
  intro p e s m below meth c ls C hP hS hl
  have hx := C.1.1
  have hb := C.1.2.1
  unfold q_X2_signSum at h
  refine lv_iconst (v := 0) hx hb dX2_signSum_0 (by decide) ?_
  refine lv_istore_n (lv' := [(2, .int 0), (0, .ref (adr k)), (1, .int a0)]) hx hb dX2_signSum_1 rfl hl (by decide) rfl (fun ls hl => ?_)
  refine lv_iconst (v := 0) hx hb dX2_signSum_2 (by decide) ?_
  refine lv_istore_n (lv' := [(3, .int 0), (2, .int 0), (0, .ref (adr k)), (1, .int a0)]) hx hb dX2_signSum_3 rfl hl (by decide) rfl (fun ls hl => ?_)
  obtain ⟨n9, h⟩ := h
  exact k_X2_signSum_4 hN C k hk n9 a0 0 0 t _ _ _ h hP hS (lv_sub hl [2, 3, 1, 0] rfl)

/-! X2.pointsBeyond -/
abbrev wm_X2_pointsBeyond : List Cond := Cond.code yX2_pointsBeyond cX2_pointsBeyond 2 (some .int) :: wsL_law
def q_X2_pointsBeyond (t : fcS) (k : Nat) (a0 : Int32) (post : Int32 → fcS → Prop) : Prop := q_X3_degree t a0 (fun (r2 : Int32) (t1 : fcS) => (¬ (2 : Int32) = 0) ∧ ((¬ (irm r2 2) = 1 → (q_X3_lead t1 a0 (fun (r4 : Int32) (t3 : fcS) => q_X2_squareSign t3 k r4 (fun (r6 : Int32) (t5 : fcS) => (¬ r6 = 1 → (post 0 t5)) ∧ (r6 = 1 → (post 2 t5)))))) ∧ ((irm r2 2) = 1 → (post 1 t1))))
set_option maxHeartbeats 4000000 in
set_option maxRecDepth 100000 in
theorem c_X2_pointsBeyond (l : Launch) (D : va_G) (adr : Nat → Nat) (cs : Nat → ClassId) {N : Nat} (hN : 53 ≤ N) (t : fcS) (k : Nat) (hk : fisF k) (a0 : Int32) (post : Int32 → fcS → Prop) (h : q_X2_pointsBeyond t k a0 post) : Met l yX2_pointsBeyond wm_X2_pointsBeyond ({ frames := 2, cells := 0, slots := 0, locals := 42 } : Room) (fcPre D adr cs N t [.ref (adr k), .int a0]) (fQi D adr cs N post) 0 0 (faN adr N) := by
  refine f_enter (cc := cX2_pointsBeyond) (nL := 2) (ret := some .int) (lv := [(0, .ref (adr k)), (1, .int a0)]) (own := RX2) (by decide) rfl (Nat.le_of_ble_eq_true rfl) rfl rfl ?_
  intro p e s m below meth c ls C hP hS hl
  have hx := C.1.1
  have hb := C.1.2.1
  unfold q_X2_pointsBeyond at h
  refine lv_aload_n hx hb dX2_pointsBeyond_0 rfl (lv_at hl 0 rfl) ?_
  refine fr_get (j := 0) C hP (by have := hk.2.1; omega) (fG_FI adr cs t hk) rfl (fun w h => List.mem_cons_of_mem _ (inl_X2 w h)) (by decide) rfl (List.mem_cons_of_mem _ mw_2_19) rfl dX2_pointsBeyond_1 ?_
  refine lv_iload_n hx hb dX2_pointsBeyond_4 rfl (lv_at hl 1 rfl) ?_
  refine fr_ci (fr_runV (n := 1) (rest := []) C (c_X3_degree l D adr cs hN t a0 _ h) hP hS (by omega) (fG_PO adr cs t) rfl (fgV mw_21_1 mw_5_5 mw_5_6 mw_1_14 mw_5_7) rfl rfl rfl (by decide +kernel) ⟨Nat.le_of_ble_eq_true rfl, Nat.le_of_ble_eq_true rfl⟩ rfl hl.1 rfl (Nat.le_of_ble_eq_true rfl) dX2_pointsBeyond_5) hS (fun r2 t1 H locs h hP hS => ?_)
  refine lv_iconst (v := 2) hx hb dX2_pointsBeyond_8 (by decide) ?_
  refine lv_irem hx hb dX2_pointsBeyond_9 h.1 ?_
  replace h := h.2
  refine lv_iconst (v := 1) hx hb dX2_pointsBeyond_10 (by decide) ?_
  refine lv_icmp_ne (tgt := 16) hx hb dX2_pointsBeyond_11 (by decide) (fun c9 => ?_) (fun c9 => ?_)
  · replace h := h.1 c9
    refine lv_aload_n hx hb dX2_pointsBeyond_16 rfl (lv_at hl 0 rfl) ?_
    refine lv_aload_n hx hb dX2_pointsBeyond_17 rfl (lv_at hl 0 rfl) ?_
    refine fr_get (j := 0) C hP (by have := hk.2.1; omega) (fG_FI adr cs t1 hk) rfl (fun w h => List.mem_cons_of_mem _ (inl_X2 w h)) (by decide) rfl (List.mem_cons_of_mem _ mw_2_19) rfl dX2_pointsBeyond_18 ?_
    refine lv_iload_n hx hb dX2_pointsBeyond_21 rfl (lv_at hl 1 rfl) ?_
    refine fr_ci (fr_runV (n := 1) (rest := [.ref (adr k)]) C (c_X3_lead l D adr cs hN t1 a0 _ h) hP hS (by omega) (fG_PO adr cs t1) rfl (fgV mw_22_10 mw_5_9 mw_5_10 mw_1_14 mw_5_11) rfl rfl rfl (by decide +kernel) ⟨Nat.le_of_ble_eq_true rfl, Nat.le_of_ble_eq_true rfl⟩ rfl hl.1 rfl (Nat.le_of_ble_eq_true rfl) dX2_pointsBeyond_22) hS (fun r4 t3 H locs h hP hS => ?_)
    refine fr_ci (fr_runV (n := 1) (rest := []) C (c_X2_squareSign l D adr cs hN t3 k hk r4 _ h) hP hS (by have := hk.2.1; omega) (fG_FI adr cs t3 hk) rfl (fgV mw_22_5 mw_6_22 mw_6_23 mw_2_2 mw_7_0) rfl rfl rfl (by decide +kernel) ⟨Nat.le_of_ble_eq_true rfl, Nat.le_of_ble_eq_true rfl⟩ rfl hl.1 rfl (Nat.le_of_ble_eq_true rfl) dX2_pointsBeyond_25) hS (fun r6 t5 H locs h hP hS => ?_)
    refine lv_iconst (v := 1) hx hb dX2_pointsBeyond_28 (by decide) ?_
    refine lv_icmp_ne (tgt := 36) hx hb dX2_pointsBeyond_29 (by decide) (fun c9 => ?_) (fun c9 => ?_)
    · replace h := h.1 c9
      refine lv_iconst (v := 0) hx hb dX2_pointsBeyond_36 (by decide) ?_
      exact fr_iret C hP hS h dX2_pointsBeyond_37
    · replace h := h.2 c9
      refine lv_iconst (v := 2) hx hb dX2_pointsBeyond_32 (by decide) ?_
      refine lv_goto (tgt := 37) hx hb dX2_pointsBeyond_33 (by decide) ?_
      exact fr_iret C hP hS h dX2_pointsBeyond_37
  · replace h := h.2 c9
    refine lv_iconst (v := 1) hx hb dX2_pointsBeyond_14 (by decide) ?_
    exact fr_iret C hP hS h dX2_pointsBeyond_15

/-! X2.pointsOf -/
abbrev wm_X2_pointsOf : List Cond := Cond.code yX2_pointsOf cX2_pointsOf 2 (some .int) :: wsL_law
def q_X2_pointsOf (t : fcS) (k : Nat) (a0 : Int32) (post : Int32 → fcS → Prop) : Prop := q_X2_signSum t k a0 (fun (r2 : Int32) (t1 : fcS) => q_X2_pointsBeyond t1 k a0 (fun (r4 : Int32) (t3 : fcS) => post ((((fgi t k 5) + r2) + r4)) t3))
set_option maxHeartbeats 4000000 in
set_option maxRecDepth 100000 in
theorem c_X2_pointsOf (l : Launch) (D : va_G) (adr : Nat → Nat) (cs : Nat → ClassId) {N : Nat} (hN : 53 ≤ N) (t : fcS) (k : Nat) (hk : fisF k) (a0 : Int32) (post : Int32 → fcS → Prop) (h : q_X2_pointsOf t k a0 post) : Met l yX2_pointsOf wm_X2_pointsOf ({ frames := 4, cells := 0, slots := 0, locals := 90 } : Room) (fcPre D adr cs N t [.ref (adr k), .int a0]) (fQi D adr cs N post) 0 0 (faN adr N) := by
  refine f_enter (cc := cX2_pointsOf) (nL := 2) (ret := some .int) (lv := [(0, .ref (adr k)), (1, .int a0)]) (own := RX2) (by decide) rfl (Nat.le_of_ble_eq_true rfl) rfl rfl ?_
  intro p e s m below meth c ls C hP hS hl
  have hx := C.1.1
  have hb := C.1.2.1
  unfold q_X2_pointsOf at h
  refine lv_aload_n hx hb dX2_pointsOf_0 rfl (lv_at hl 0 rfl) ?_
  refine fr_get (j := 5) C hP (by have := hk.2.1; omega) (fG_FI adr cs t hk) rfl (fun w h => List.mem_cons_of_mem _ (inl_X2 w h)) (by decide) rfl (List.mem_cons_of_mem _ mw_2_16) rfl dX2_pointsOf_1 ?_
  refine lv_aload_n hx hb dX2_pointsOf_4 rfl (lv_at hl 0 rfl) ?_
  refine lv_iload_n hx hb dX2_pointsOf_5 rfl (lv_at hl 1 rfl) ?_
  refine fr_ci (fr_runV (n := 1) (rest := [.int ((fgi t k 5))]) C (c_X2_signSum l D adr cs hN t k hk a0 _ h) hP hS (by have := hk.2.1; omega) (fG_FI adr cs t hk) rfl (fgV mw_22_0 mw_22_1 mw_22_2 mw_2_2 mw_22_3) rfl rfl rfl (by decide +kernel) ⟨Nat.le_of_ble_eq_true rfl, Nat.le_of_ble_eq_true rfl⟩ rfl hl.1 rfl (Nat.le_of_ble_eq_true rfl) dX2_pointsOf_6) hS (fun r2 t1 H locs h hP hS => ?_)
  refine lv_iadd hx hb dX2_pointsOf_9 ?_
  refine lv_aload_n hx hb dX2_pointsOf_10 rfl (lv_at hl 0 rfl) ?_
  refine lv_iload_n hx hb dX2_pointsOf_11 rfl (lv_at hl 1 rfl) ?_
  refine fr_ci (fr_runV (n := 1) (rest := [.int (((fgi t k 5) + r2))]) C (c_X2_pointsBeyond l D adr cs hN t1 k hk a0 _ h) hP hS (by have := hk.2.1; omega) (fG_FI adr cs t1 hk) rfl (fgV mw_22_6 mw_22_7 mw_22_8 mw_2_2 mw_22_9) rfl rfl rfl (by decide +kernel) ⟨Nat.le_of_ble_eq_true rfl, Nat.le_of_ble_eq_true rfl⟩ rfl hl.1 rfl (Nat.le_of_ble_eq_true rfl) dX2_pointsOf_12) hS (fun r4 t3 H locs h hP hS => ?_)
  refine lv_iadd hx hb dX2_pointsOf_15 ?_
  exact fr_iret C hP hS h dX2_pointsOf_16

