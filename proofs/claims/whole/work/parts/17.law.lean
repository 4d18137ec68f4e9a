/-! THE CLAIM OUT OF ONE WALK OF THE LAW'S BODY. Your part is whole_start (and what it stands on); all else here is the same for every law, but numbers. -/
def R_law : String := "FieldCountsLaw"
def lw_P (b : Addr) (xs : List Int32) (args : Array Value) (s : State) : Prop := args = #[.ref b] ∧ s.IntsAt b xs ∧ xs.length ≤ 2560 ∧ (Jvm.Cond.and given_1 narrow_1).before args s = true
def lw_Q (_ : Array Value) (s : State) (o : Outcome) (t : State) : Prop := o = .returned (some (.int 1)) ∧ Framed s o t [] 600000 7302250
def lw_Z (below : List Frame) (a : Array Value) (s : State) : State → Prop := fun t => ∃ o, t.status = .running ∧ Ended t below o ∧ lw_Q a s o t
/-- the law's own end, with 1 on the stack, nothing written that was there before, its room as the claim has it -/
theorem lw_ret {p : Program} {l : Launch} {e : Env} {s : State} {m : MethodId} {below : List Frame} {meth : Method} {c : Code} {b : Nat} (hx : p.tables.exec = Jvm.exec) (hb : c.code = code) (hr : meth.sig.returnType = ret) (hlocks : meth.locks = false) {pc : Nat} {H : Heap} {ls : Array Slot} (hdg : decode code pc = .ok (.ireturn, 1)) : W p l e room_1 s m #[Value.ref b] below meth c H [] 600000 7302250 (lw_Z below #[Value.ref b] s) (F0 m pc ls [.int 1]) := by
  intro T hT X
  obtain ⟨fs, hret, hrun, hended, hW, hframe⟩ := X.leave (v := some (.int 1)) (hlocks := hlocks) (fun h => by rw [hr] at h; cases h)
  have hmeth' : T.vm.method? m = some meth := X.method'
  refine ⟨T.setFrames fs, ?_, .returned (some (.int 1)), hrun, hended, rfl, ⟨_, rfl⟩, hW, hframe⟩
  jvm_step X.here [X.here.top, hx, hb, hdg, hmeth', hr, ret, narrow_b1]
  (try refine ⟨rfl, ?_⟩); (try refine ⟨rfl, ?_⟩)
  first | (intro acts; rw [hret _ acts rfl rfl rfl]) | rw [hret _ _ rfl rfl rfl]
  exact Steps.refl _
/-- what holds at the law's entry: the machine, the code, the tables' words (any of lw_tbl by 'hts w (by decide +kernel)'), the script of L ints xs at the cell b, what the Statement gives of the start (any of its parts by flat_of_before) -/
def lw_At (p : Program) (s : State) (m : MethodId) (meth : Method) (c : Code) (b L : Nat) (xs : Nat → Int32) : Prop :=
  p.tables.exec = Jvm.exec ∧ c.code = code ∧ meth.sig.returnType = ret ∧ c.maxLocals = 4 ∧ s.vm.findClass R_law = some m.cls ∧ (∀ w ∈ lw_tbl, w.before #[Value.ref b] s = true) ∧ va_X b L xs s s.heap ∧ b < s.heap.size ∧ meth.locks = false ∧ (Jvm.Cond.and given_1 narrow_1).before #[Value.ref b] s = true
/-- what is owed of the start -/
def fOK_0 (Inv : fcS → Prop) : Prop := q_X4_start ft0 3 (fun t => q_X5_begins (ft1 t) 3 (fun t2 => Inv t2))
/-- what is owed of prime -/
def fOK_1 (Inv : fcS → Prop) : Prop := ∀ (t : fcS) (a1 : Int32), Inv t → q_X4_prime t a1 (fun (r : Int32) (t1 : fcS) => q_X5_prime t1 a1 (fun (r2 : Int32) (t2 : fcS) => r = r2 ∧ Inv t2))
/-- what is owed of size -/
def fOK_2 (Inv : fcS → Prop) : Prop := ∀ (t : fcS) (a1 : Int32), Inv t → q_X4_size t a1 (fun (r : Int32) (t1 : fcS) => q_X5_size t1 a1 (fun (r2 : Int32) (t2 : fcS) => r = r2 ∧ Inv t2))
/-- what is owed of modulus -/
def fOK_3 (Inv : fcS → Prop) : Prop := ∀ (t : fcS) (a1 : Int32), Inv t → q_X4_modulus t a1 (fun (r : Int32) (t1 : fcS) => q_X5_modulus t1 a1 (fun (r2 : Int32) (t2 : fcS) => r = r2 ∧ Inv t2))
/-- what is owed of plus -/
def fOK_4 (Inv : fcS → Prop) : Prop := ∀ (t : fcS) (a1 : Int32) (a2 : Int32) (a3 : Int32), Inv t → q_X4_plus t a1 a2 a3 (fun (r : Int32) (t1 : fcS) => q_X5_plus t1 a1 a2 a3 (fun (r2 : Int32) (t2 : fcS) => r = r2 ∧ Inv t2))
/-- what is owed of times -/
def fOK_5 (Inv : fcS → Prop) : Prop := ∀ (t : fcS) (a1 : Int32) (a2 : Int32) (a3 : Int32), Inv t → q_X4_times t a1 a2 a3 (fun (r : Int32) (t1 : fcS) => q_X5_times t1 a1 a2 a3 (fun (r2 : Int32) (t2 : fcS) => r = r2 ∧ Inv t2))
/-- what is owed of over -/
def fOK_6 (Inv : fcS → Prop) : Prop := ∀ (t : fcS) (a1 : Int32) (a2 : Int32), Inv t → q_X4_over t a1 a2 (fun (r : Int32) (t1 : fcS) => q_X5_over t1 a1 a2 (fun (r2 : Int32) (t2 : fcS) => r = r2 ∧ Inv t2))
/-- what is owed of raise -/
def fOK_7 (Inv : fcS → Prop) : Prop := ∀ (t : fcS) (a1 : Int32) (a2 : Int32) (a3 : Int32), Inv t → q_X4_raise t a1 a2 a3 (fun (r : Int32) (t1 : fcS) => q_X5_raise t1 a1 a2 a3 (fun (r2 : Int32) (t2 : fcS) => r = r2 ∧ Inv t2))
/-- what is owed of sign -/
def fOK_8 (Inv : fcS → Prop) : Prop := ∀ (t : fcS) (a1 : Int32) (a2 : Int32), Inv t → q_X4_sign t a1 a2 (fun (r : Int32) (t1 : fcS) => q_X5_sign t1 a1 a2 (fun (r2 : Int32) (t2 : fcS) => r = r2 ∧ Inv t2))
/-- what is owed of turns -/
def fOK_9 (Inv : fcS → Prop) : Prop := ∀ (t : fcS) (a1 : Int32) (a2 : Int32), Inv t → q_X4_turns t a1 a2 (fun (r : Int32) (t1 : fcS) => q_X5_turns t1 a1 a2 (fun (r2 : Int32) (t2 : fcS) => r = r2 ∧ Inv t2))
/-- what is owed of trace -/
def fOK_10 (Inv : fcS → Prop) : Prop := ∀ (t : fcS) (a1 : Int32) (a2 : Int32), Inv t → q_X4_trace t a1 a2 (fun (r : Int32) (t1 : fcS) => q_X5_trace t1 a1 a2 (fun (r2 : Int32) (t2 : fcS) => r = r2 ∧ Inv t2))
/-- what is owed of forms -/
def fOK_11 (Inv : fcS → Prop) : Prop := ∀ (t : fcS) (a1 : Int32) (a2 : Int32) (a3 : Int32) (a4 : Int32), Inv t → q_X4_forms t a1 a2 a3 a4 (fun (r : Int32) (t1 : fcS) => q_X5_forms t1 a1 a2 a3 a4 (fun (r2 : Int32) (t2 : fcS) => r = r2 ∧ Inv t2))
/-- what is owed of curve -/
def fOK_12 (Inv : fcS → Prop) : Prop := ∀ (t : fcS) (a1 : Int32) (a2 : Int32) (a3 : Int32), Inv t → q_X4_curve t a1 a2 a3 (fun (r : Int32) (t1 : fcS) => q_X5_curve t1 a1 a2 a3 (fun (r2 : Int32) (t2 : fcS) => r = r2 ∧ Inv t2))
/-- what is owed of knot -/
def fOK_13 (Inv : fcS → Prop) : Prop := ∀ (t : fcS), Inv t → q_X4_knot t  (fun (r : Int32) (t1 : fcS) => q_X5_knot t1  (fun (r2 : Int32) (t2 : fcS) => r = r2 ∧ Inv t2))
/-- what is owed of about -/
def fOK_14 (Inv : fcS → Prop) : Prop := ∀ (t : fcS) (a1 : Int32) (a2 : Int32), Inv t → q_X4_about t a1 a2 (fun (r : Int32) (t1 : fcS) => q_X5_about t1 a1 a2 (fun (r2 : Int32) (t2 : fcS) => r = r2 ∧ Inv t2))
/-- what is owed of value -/
def fOK_15 (Inv : fcS → Prop) : Prop := ∀ (t : fcS) (a1 : Int32) (a2 : Int32) (a3 : Int32), Inv t → q_X4_value t a1 a2 a3 (fun (r : Int32) (t1 : fcS) => q_X5_value t1 a1 a2 a3 (fun (r2 : Int32) (t2 : fcS) => r = r2 ∧ Inv t2))
/-- what is owed of count -/
def fOK_16 (Inv : fcS → Prop) : Prop := ∀ (t : fcS) (a1 : Int32) (a2 : Int32), Inv t → q_X4_count t a1 a2 (fun (r : Int32) (t1 : fcS) => q_X5_count t1 a1 a2 (fun (r2 : Int32) (t2 : fcS) => r = r2 ∧ Inv t2))
/-- what is owed of beyond -/
def fOK_17 (Inv : fcS → Prop) : Prop := ∀ (t : fcS) (a1 : Int32) (a2 : Int32), Inv t → q_X4_beyond t a1 a2 (fun (r : Int32) (t1 : fcS) => q_X5_beyond t1 a1 a2 (fun (r2 : Int32) (t2 : fcS) => r = r2 ∧ Inv t2))
/-- what is owed of share -/
def fOK_18 (Inv : fcS → Prop) : Prop := ∀ (t : fcS) (a1 : Int32) (a2 : Int32), Inv t → q_X4_share t a1 a2 (fun (r : Int32) (t1 : fcS) => q_X5_share t1 a1 a2 (fun (r2 : Int32) (t2 : fcS) => r = r2 ∧ Inv t2))
/-- what is owed of further -/
def fOK_19 (Inv : fcS → Prop) : Prop := ∀ (t : fcS) (a1 : Int32) (a2 : Int32), Inv t → q_X4_further t a1 a2 (fun (r : Int64) (t1 : fcS) => q_X5_further t1 a1 a2 (fun (r2 : Int64) (t2 : fcS) => r = r2 ∧ Inv t2))
/-- what is owed of whole -/
def fOK_20 (Inv : fcS → Prop) : Prop := ∀ (t : fcS) (a1 : Int32), Inv t → q_X4_whole t a1 (fun (r : Int32) (t1 : fcS) => q_X5_whole t1 a1 (fun (r2 : Int32) (t2 : fcS) => r = r2 ∧ Inv t2))
/-- what is owed of bound -/
def fOK_21 (Inv : fcS → Prop) : Prop := ∀ (t : fcS) (a1 : Int32), Inv t → q_X4_bound t a1 (fun (r : Int32) (t1 : fcS) => q_X5_bound t1 a1 (fun (r2 : Int32) (t2 : fcS) => r = r2 ∧ Inv t2))
/-- what is owed of surface -/
def fOK_22 (Inv : fcS → Prop) : Prop := ∀ (t : fcS) (a1 : Int32) (a2 : Int32) (a3 : Int32), Inv t → q_X4_surface t a1 a2 a3 (fun (r : Int32) (t1 : fcS) => q_X5_surface t1 a1 a2 a3 (fun (r2 : Int32) (t2 : fcS) => r = r2 ∧ Inv t2))
/-- what is owed of best -/
def fOK_23 (Inv : fcS → Prop) : Prop := ∀ (t : fcS) (a1 : Int32) (a2 : Int32) (a3 : Int32), Inv t → q_X4_best t a1 a2 a3 (fun (r : Int32) (t1 : fcS) => q_X5_best t1 a1 a2 a3 (fun (r2 : Int32) (t2 : fcS) => r = r2 ∧ Inv t2))
/-- what is owed of isClass -/
def fOK_24 (Inv : fcS → Prop) : Prop := ∀ (t : fcS) (a1 : Int32) (a2 : Int32) (a3 : Int32), Inv t → q_X4_isClass t a1 a2 a3 (fun (r : Int32) (t1 : fcS) => q_X5_isClass t1 a1 a2 a3 (fun (r2 : Int32) (t2 : fcS) => r = r2 ∧ Inv t2))
/-- what is owed of classes -/
def fOK_25 (Inv : fcS → Prop) : Prop := ∀ (t : fcS) (a1 : Int32), Inv t → q_X4_classes t a1 (fun (r : Int32) (t1 : fcS) => q_X5_classes t1 a1 (fun (r2 : Int32) (t2 : fcS) => r = r2 ∧ Inv t2))
/-- what is owed of classAt -/
def fOK_26 (Inv : fcS → Prop) : Prop := ∀ (t : fcS) (a1 : Int32) (a2 : Int32) (a3 : Int32), Inv t → q_X4_classAt t a1 a2 a3 (fun (r : Int32) (t1 : fcS) => q_X5_classAt t1 a1 a2 a3 (fun (r2 : Int32) (t2 : fcS) => r = r2 ∧ Inv t2))
/-- what is owed of add -/
def fOK_27 (Inv : fcS → Prop) : Prop := ∀ (t : fcS) (a1 : Int32) (a2 : Int32) (a3 : Int32), Inv t → q_X4_add t a1 a2 a3 (fun (r : Int32) (t1 : fcS) => q_X5_add t1 a1 a2 a3 (fun (r2 : Int32) (t2 : fcS) => r = r2 ∧ Inv t2))
/-- what is owed of minus -/
def fOK_28 (Inv : fcS → Prop) : Prop := ∀ (t : fcS) (a1 : Int32) (a2 : Int32), Inv t → q_X4_minus t a1 a2 (fun (r : Int32) (t1 : fcS) => q_X5_minus t1 a1 a2 (fun (r2 : Int32) (t2 : fcS) => r = r2 ∧ Inv t2))
/-- what is owed of order -/
def fOK_29 (Inv : fcS → Prop) : Prop := ∀ (t : fcS) (a1 : Int32) (a2 : Int32), Inv t → q_X4_order t a1 a2 (fun (r : Int32) (t1 : fcS) => q_X5_order t1 a1 a2 (fun (r2 : Int32) (t2 : fcS) => r = r2 ∧ Inv t2))
/-- what is owed of told -/
def fOK_30 (Inv : fcS → Prop) : Prop := ∀ (t : fcS) (a1 : Int32), Inv t → q_X4_told t a1 (fun (r : Int32) (t1 : fcS) => q_X5_told t1 a1 (fun (r2 : Int32) (t2 : fcS) => r = r2 ∧ Inv t2))
/-- what is owed of traced -/
def fOK_31 (Inv : fcS → Prop) : Prop := ∀ (t : fcS), Inv t → q_X4_traced t  (fun (r : Int64) (t1 : fcS) => q_X5_traced t1  (fun (r2 : Int64) (t2 : fcS) => r = r2 ∧ Inv t2))
/-- what the law asks of class and reference, said over the state alone -/
def fOK (Inv : fcS → Prop) : Prop := fOK_0 Inv ∧ fOK_1 Inv ∧ fOK_2 Inv ∧ fOK_3 Inv ∧ fOK_4 Inv ∧ fOK_5 Inv ∧ fOK_6 Inv ∧ fOK_7 Inv ∧ fOK_8 Inv ∧ fOK_9 Inv ∧ fOK_10 Inv ∧ fOK_11 Inv ∧ fOK_12 Inv ∧ fOK_13 Inv ∧ fOK_14 Inv ∧ fOK_15 Inv ∧ fOK_16 Inv ∧ fOK_17 Inv ∧ fOK_18 Inv ∧ fOK_19 Inv ∧ fOK_20 Inv ∧ fOK_21 Inv ∧ fOK_22 Inv ∧ fOK_23 Inv ∧ fOK_24 Inv ∧ fOK_25 Inv ∧ fOK_26 Inv ∧ fOK_27 Inv ∧ fOK_28 Inv ∧ fOK_29 Inv ∧ fOK_30 Inv ∧ fOK_31 Inv
theorem fgV0 {own Cn : String} {index : Nat} {y : MethodName} {bytes : ByteArray} {maxL : Nat} {ret : Option FieldType} (h1 : Cond.methodLink own index y ∈ wsL_law) (h2 : Cond.instanceMethod y ∈ wsL_law) (h3 : Cond.selects Cn y y ∈ wsL_law) (h4 : Cond.initialized Cn ∈ wsL_law) (h5 : Cond.code y bytes maxL ret ∈ wsL_law) : GoodIn wsL_law (wsV own index Cn y (Cond.code y bytes maxL ret :: wsL_law)) := by
  intro w hw
  have hm : w ∈ wsL_law := by
    rcases List.mem_append.mp hw with h | h
    · simp only [List.mem_cons, List.not_mem_nil, or_false] at h
      rcases h with rfl | rfl | rfl | rfl <;> assumption
    · rcases List.mem_cons.mp h with rfl | h <;> assumption
  exact ⟨hm, good_of_word (wsG_all w hm)⟩
theorem fgN0 {y : MethodName} {bytes : ByteArray} {maxL : Nat} {ret : Option FieldType} (h5 : Cond.code y bytes maxL ret ∈ wsL_law) : GoodIn wsL_law (Cond.code y bytes maxL ret :: wsL_law) := by
  intro w hw
  have hm : w ∈ wsL_law := by rcases List.mem_cons.mp hw with rfl | h <;> assumption
  exact ⟨hm, good_of_word (wsG_all w hm)⟩
/-- what the law's loop stands on -/
def fLx (D : va_G) (adr : Nat → Nat) (cs : Nat → ClassId) (p : Program) (s : State) (m : MethodId) (b L : Nat) (xs : Nat → Int32) (c : Code) : Prop :=
  CallFix p m c cL_law 4 s #[Value.ref b] wsL_law RL ∧ va_K D vwCl (ftys cs) s ∧ fnests s ∧ finj adr 67 ∧ (∀ q, faN adr 67 q → s.heap.size ≤ q) ∧ fst0 adr 67 s s.heap ∧ va_X b L xs s s.heap ∧ b < s.heap.size
section FL
variable {D : va_G} {adr : Nat → Nat} {cs : Nat → ClassId} {p : Program} {l : Launch} {e : Env} {s : State} {m : MethodId} {below : List Frame} {meth : Method} {c : Code} {H : Heap} {locs : List Loc} {Q : State → Prop} {b L : Nat} {xs : Nat → Int32}
variable {pc : Nat} {ls : Array Slot} {rest : List Value} {t : fcS} {k : Nat} {cells slots : Nat}
variable {y : MethodName} {bytes : ByteArray} {maxL n index : Nat} {ret2 : Option FieldType} {rm : Room} {Qc : Array Value → State → Outcome → State → Prop} {As st0 : List Value}
theorem lr_runV (X : fLx D adr cs p s m b L xs c) (hM : Met l y (Cond.code y bytes maxL ret2 :: wsL_law) rm (fcPre D adr cs 67 t (.ref (adr k) :: As)) Qc 0 0 (faN adr 67)) (hP : va_P D vwCl (fwl adr 67 (fG adr cs t)) H) (hS : va_S (fun q => s.heap.size ≤ q) s.heap H locs) {Cn : String} {ci NN : Nat} {T : u_T} {fs : List Value} (hk : k < 67) (hG : fG adr cs t k = .inr (ci, fs)) (hc : vwCl[ci]? = some (Cn, T, NN))
    (hT : GoodIn wsL_law (wsV RL index Cn y (Cond.code y bytes maxL ret2 :: wsL_law))) (hrc : rm.cells = 0) (hrs : rm.slots = 0) (hd : y.cls = Cn ∧ y.cls ≠ "java/lang/invoke/MethodHandle" ∧ y.cls ≠ "java/lang/invoke/VarHandle" ∧ (parseMethodDescriptor y.desc).map (fun d => d.parameters.length) = some n) (hR : rm.frames + 1 ≤ room_1.frames ∧ 8 + (maxL + 11) + rm.locals ≤ room_1.locals)
    (hn : As.length = n) (hl : ls.size = 4) (hst : st0 = As.reverse ++ .ref (adr k) :: rest) (hroom : (rest.map fun v => v.category).sum ≤ 8) (hdg : decode cL_law pc = .ok (.invokevirtual index, 3)) (hf : cells + 0 ≤ room_1.cells ∧ slots + 0 ≤ room_1.slots) :
    va_Run p l e room_1 s m #[Value.ref b] below meth c H locs cells slots 0 0 (F0 m pc ls st0) rest (Qc (Value.ref (adr k) :: As).toArray) (faN adr 67) := by
  obtain ⟨F, hK, hN, hI, hIn, hZ, -, -⟩ := X
  have hts := F.2.2.2.2
  exact va_runV (C := Cn) (b := adr k) (As := As) (rest := rest) F hM (cwV n hts hT rfl hrc hrs hd hR) ⟨fcPre_blind, va_recv (q := (Cn, T, NN)) (ci := ci) (q0 := k) (fs := fs) hK hP hc (by rw [fwl_get hk, hG]), fun U hU hW => ⟨rfl, by rw [hU]; exact hP, va_K.moved hW.alike hK, fnests_warm hW hN, hI, by rw [hU]; exact fst0_moved hW.alike (fst0_kept (fun a h1 h2 => hS.2.1 a h1 (fun z => Nat.not_lt.mpr z h1)) hZ)⟩⟩ rfl hn hl hst (lv_room hroom) hdg hf
theorem lr_ci {a : Array Value} {post : Int32 → fcS → Prop} (X : fLx D adr cs p s m b L xs c) (hr : va_Run p l e room_1 s m #[Value.ref b] below meth c H locs cells slots 0 0 (F0 m pc ls st0) rest (fQi D adr cs 67 post a) (faN adr 67)) (hS : va_S (fun q => s.heap.size ≤ q) s.heap H locs)
    (kk : ∀ (r : Int32) (t : fcS) (H1 : Heap) (locs1 : List Loc), post r t → va_P D vwCl (fwl adr 67 (fG adr cs t)) H1 → va_S (fun q => s.heap.size ≤ q) s.heap H1 locs1 → W p l e room_1 s m #[Value.ref b] below meth c H1 locs1 cells slots Q (F0 m (pc + 3) ls (.int r :: rest))) : W p l e room_1 s m #[Value.ref b] below meth c H locs cells slots Q (F0 m pc ls st0) :=
  va_calli hr hS (fun q _ h => X.2.2.2.2.1 q h) (fun q h => X.2.2.2.2.1 q h) (fun r u t H1 locs1 ht _ hp hB _ _ hS1 => kk r u H1 locs1 hp (by rw [← ht]; exact hB) hS1)
theorem lr_cl {a : Array Value} {post : Int64 → fcS → Prop} (X : fLx D adr cs p s m b L xs c) (hr : va_Run p l e room_1 s m #[Value.ref b] below meth c H locs cells slots 0 0 (F0 m pc ls st0) rest (fQl D adr cs 67 post a) (faN adr 67)) (hS : va_S (fun q => s.heap.size ≤ q) s.heap H locs)
    (kk : ∀ (r : Int64) (t : fcS) (H1 : Heap) (locs1 : List Loc), post r t → va_P D vwCl (fwl adr 67 (fG adr cs t)) H1 → va_S (fun q => s.heap.size ≤ q) s.heap H1 locs1 → W p l e room_1 s m #[Value.ref b] below meth c H1 locs1 cells slots Q (F0 m (pc + 3) ls (.long r :: rest))) : W p l e room_1 s m #[Value.ref b] below meth c H locs cells slots Q (F0 m pc ls st0) :=
  va_calll hr hS (fun q _ h => X.2.2.2.2.1 q h) (fun q h => X.2.2.2.2.1 q h) (fun r u t H1 locs1 ht _ hp hB _ _ hS1 => kk r u H1 locs1 hp (by rw [← ht]; exact hB) hS1)
end FL
theorem fl_in {i j L : Nat} {x : Int32} {v : Int32} (hx : x = nI i) (hv : v = nI j) (h : i + j < L) (hL : L ≤ 2560) : vp_in (x + v) L := by
  rw [hx, hv, nI_add]; exact vp_in_nI h (by omega)
set_option maxHeartbeats 4000000 in
set_option maxRecDepth 100000 in
theorem lc_0 {D : va_G} {adr : Nat → Nat} {cs : Nat → ClassId} {p : Program} {l : Launch} {e : Env} {s : State} {m : MethodId} {below : List Frame} {meth : Method} {c : Code} {b L : Nat} {xs : Nat → Int32} (hL : L ≤ 2560) (X : fLx D adr cs p s m b L xs c) {Inv : fcS → Prop} (hOK : fOK_1 Inv) {i : Nat} (hi : i + 5 ≤ L) {x3 : Int32} (ex3 : x3 = nI i) {t : fcS} (ht : Inv t) {H : Heap} {locs : List Loc} {ls : Array Slot} (hP : va_P D vwCl (fwl adr 67 (fG adr cs t)) H) (hS : va_S (fun q => s.heap.size ≤ q) s.heap H locs) (hl : lv_has ls 4 [(0, .ref b), (1, .ref (adr 0)), (2, .ref (adr 53)), (3, .int x3)])
    (kk : ∀ (t : fcS) (H : Heap) (locs : List Loc), Inv t → va_P D vwCl (fwl adr 67 (fG adr cs t)) H → va_S (fun q => s.heap.size ≤ q) s.heap H locs → W p l e room_1 s m #[Value.ref b] below meth c H locs 67 10343 (lw_Z below #[Value.ref b] s) (F0 m 1207 ls [])) : W p l e room_1 s m #[Value.ref b] below meth c H locs 67 10343 (lw_Z below #[Value.ref b] s) (F0 m 172 ls []) := by
  have hx := X.1.1
  have hb := X.1.2.1
  have hX := X.2.2.2.2.2.2.1
  have hbl := X.2.2.2.2.2.2.2
  have hbA : ¬ (fun q : Nat => s.heap.size ≤ q) b := Nat.not_le.mpr hbl
  have h := hOK t (xs (x3 + 1).toNatClampNeg) ht
  refine lv_aload_n hx hb dL_law_172 rfl (lv_at hl 1 rfl) ?_
  refine lv_aload_n hx hb dL_law_173 rfl (lv_at hl 0 rfl) ?_
  refine lv_iload_n hx hb dL_law_174 rfl (lv_at hl 3 rfl) ?_
  refine lv_iconst (v := 1) hx hb dL_law_175 (by decide) ?_
  refine lv_iadd hx hb dL_law_176 ?_
  refine va_sld hx hb hX hbl hbA hS (fl_in (j := 1) ex3 rfl (by omega) hL) dL_law_177 ?_
  refine lr_ci X (lr_runV (n := 1) (rest := []) X (c_X4_prime l D adr cs (by decide) t (xs (x3 + 1).toNatClampNeg) _ h) hP hS (by decide) (fG_FC adr cs t) rfl (fgV0 mw_10_5 mw_10_6 mw_10_7 mw_1_2 mw_10_8) rfl rfl (by decide +kernel) ⟨Nat.le_of_ble_eq_true rfl, Nat.le_of_ble_eq_true rfl⟩ rfl hl.1 rfl (Nat.le_of_ble_eq_true rfl) dL_law_178 ⟨Nat.le_of_ble_eq_true rfl, Nat.le_of_ble_eq_true rfl⟩) hS (fun r t1 H locs h hP hS => ?_)
  refine lv_aload_n hx hb dL_law_181 rfl (lv_at hl 2 rfl) ?_
  refine lv_aload_n hx hb dL_law_182 rfl (lv_at hl 0 rfl) ?_
  refine lv_iload_n hx hb dL_law_183 rfl (lv_at hl 3 rfl) ?_
  refine lv_iconst (v := 1) hx hb dL_law_184 (by decide) ?_
  refine lv_iadd hx hb dL_law_185 ?_
  refine va_sld hx hb hX hbl hbA hS (fl_in (j := 1) ex3 rfl (by omega) hL) dL_law_186 ?_
  refine lr_ci X (lr_runV (n := 1) (rest := [.int r]) X (c_X5_prime l D adr cs (by decide) t1 (xs (x3 + 1).toNatClampNeg) _ h) hP hS (by decide) (fG_MO adr cs t1) rfl (fgV0 mw_10_10 mw_10_11 mw_10_12 mw_1_5 mw_10_13) rfl rfl (by decide +kernel) ⟨Nat.le_of_ble_eq_true rfl, Nat.le_of_ble_eq_true rfl⟩ rfl hl.1 rfl (Nat.le_of_ble_eq_true rfl) dL_law_187 ⟨Nat.le_of_ble_eq_true rfl, Nat.le_of_ble_eq_true rfl⟩) hS (fun r2 t2 H locs h hP hS => ?_)
  refine lv_icmp_eq (tgt := 1207) hx hb dL_law_190 (by decide) (fun _ => ?_) (fun c9 => absurd h.1 c9)
  exact kk t2 H locs h.2 hP hS

set_option maxHeartbeats 4000000 in
set_option maxRecDepth 100000 in
theorem lc_1 {D : va_G} {adr : Nat → Nat} {cs : Nat → ClassId} {p : Program} {l : Launch} {e : Env} {s : State} {m : MethodId} {below : List Frame} {meth : Method} {c : Code} {b L : Nat} {xs : Nat → Int32} (hL : L ≤ 2560) (X : fLx D adr cs p s m b L xs c) {Inv : fcS → Prop} (hOK : fOK_2 Inv) {i : Nat} (hi : i + 5 ≤ L) {x3 : Int32} (ex3 : x3 = nI i) {t : fcS} (ht : Inv t) {H : Heap} {locs : List Loc} {ls : Array Slot} (hP : va_P D vwCl (fwl adr 67 (fG adr cs t)) H) (hS : va_S (fun q => s.heap.size ≤ q) s.heap H locs) (hl : lv_has ls 4 [(0, .ref b), (1, .ref (adr 0)), (2, .ref (adr 53)), (3, .int x3)])
    (kk : ∀ (t : fcS) (H : Heap) (locs : List Loc), Inv t → va_P D vwCl (fwl adr 67 (fG adr cs t)) H → va_S (fun q => s.heap.size ≤ q) s.heap H locs → W p l e room_1 s m #[Value.ref b] below meth c H locs 67 10343 (lw_Z below #[Value.ref b] s) (F0 m 1207 ls [])) : W p l e room_1 s m #[Value.ref b] below meth c H locs 67 10343 (lw_Z below #[Value.ref b] s) (F0 m 195 ls []) := by
  have hx := X.1.1
  have hb := X.1.2.1
  have hX := X.2.2.2.2.2.2.1
  have hbl := X.2.2.2.2.2.2.2
  have hbA : ¬ (fun q : Nat => s.heap.size ≤ q) b := Nat.not_le.mpr hbl
  have h := hOK t (xs (x3 + 1).toNatClampNeg) ht
  refine lv_aload_n hx hb dL_law_195 rfl (lv_at hl 1 rfl) ?_
  refine lv_aload_n hx hb dL_law_196 rfl (lv_at hl 0 rfl) ?_
  refine lv_iload_n hx hb dL_law_197 rfl (lv_at hl 3 rfl) ?_
  refine lv_iconst (v := 1) hx hb dL_law_198 (by decide) ?_
  refine lv_iadd hx hb dL_law_199 ?_
  refine va_sld hx hb hX hbl hbA hS (fl_in (j := 1) ex3 rfl (by omega) hL) dL_law_200 ?_
  refine lr_ci X (lr_runV (n := 1) (rest := []) X (c_X4_size l D adr cs (by decide) t (xs (x3 + 1).toNatClampNeg) _ h) hP hS (by decide) (fG_FC adr cs t) rfl (fgV0 mw_10_15 mw_10_16 mw_10_17 mw_1_2 mw_10_18) rfl rfl (by decide +kernel) ⟨Nat.le_of_ble_eq_true rfl, Nat.le_of_ble_eq_true rfl⟩ rfl hl.1 rfl (Nat.le_of_ble_eq_true rfl) dL_law_201 ⟨Nat.le_of_ble_eq_true rfl, Nat.le_of_ble_eq_true rfl⟩) hS (fun r t1 H locs h hP hS => ?_)
  refine lv_aload_n hx hb dL_law_204 rfl (lv_at hl 2 rfl) ?_
  refine lv_aload_n hx hb dL_law_205 rfl (lv_at hl 0 rfl) ?_
  refine lv_iload_n hx hb dL_law_206 rfl (lv_at hl 3 rfl) ?_
  refine lv_iconst (v := 1) hx hb dL_law_207 (by decide) ?_
  refine lv_iadd hx hb dL_law_208 ?_
  refine va_sld hx hb hX hbl hbA hS (fl_in (j := 1) ex3 rfl (by omega) hL) dL_law_209 ?_
  refine lr_ci X (lr_runV (n := 1) (rest := [.int r]) X (c_X5_size l D adr cs (by decide) t1 (xs (x3 + 1).toNatClampNeg) _ h) hP hS (by decide) (fG_MO adr cs t1) rfl (fgV0 mw_10_19 mw_10_20 mw_10_21 mw_1_5 mw_10_22) rfl rfl (by decide +kernel) ⟨Nat.le_of_ble_eq_true rfl, Nat.le_of_ble_eq_true rfl⟩ rfl hl.1 rfl (Nat.le_of_ble_eq_true rfl) dL_law_210 ⟨Nat.le_of_ble_eq_true rfl, Nat.le_of_ble_eq_true rfl⟩) hS (fun r2 t2 H locs h hP hS => ?_)
  refine lv_icmp_eq (tgt := 1207) hx hb dL_law_213 (by decide) (fun _ => ?_) (fun c9 => absurd h.1 c9)
  exact kk t2 H locs h.2 hP hS

set_option maxHeartbeats 4000000 in
set_option maxRecDepth 100000 in
theorem lc_2 {D : va_G} {adr : Nat → Nat} {cs : Nat → ClassId} {p : Program} {l : Launch} {e : Env} {s : State} {m : MethodId} {below : List Frame} {meth : Method} {c : Code} {b L : Nat} {xs : Nat → Int32} (hL : L ≤ 2560) (X : fLx D adr cs p s m b L xs c) {Inv : fcS → Prop} (hOK : fOK_3 Inv) {i : Nat} (hi : i + 5 ≤ L) {x3 : Int32} (ex3 : x3 = nI i) {t : fcS} (ht : Inv t) {H : Heap} {locs : List Loc} {ls : Array Slot} (hP : va_P D vwCl (fwl adr 67 (fG adr cs t)) H) (hS : va_S (fun q => s.heap.size ≤ q) s.heap H locs) (hl : lv_has ls 4 [(0, .ref b), (1, .ref (adr 0)), (2, .ref (adr 53)), (3, .int x3)])
    (kk : ∀ (t : fcS) (H : Heap) (locs : List Loc), Inv t → va_P D vwCl (fwl adr 67 (fG adr cs t)) H → va_S (fun q => s.heap.size ≤ q) s.heap H locs → W p l e room_1 s m #[Value.ref b] below meth c H locs 67 10343 (lw_Z below #[Value.ref b] s) (F0 m 1207 ls [])) : W p l e room_1 s m #[Value.ref b] below meth c H locs 67 10343 (lw_Z below #[Value.ref b] s) (F0 m 218 ls []) := by
  have hx := X.1.1
  have hb := X.1.2.1
  have hX := X.2.2.2.2.2.2.1
  have hbl := X.2.2.2.2.2.2.2
  have hbA : ¬ (fun q : Nat => s.heap.size ≤ q) b := Nat.not_le.mpr hbl
  have h := hOK t (xs (x3 + 1).toNatClampNeg) ht
  refine lv_aload_n hx hb dL_law_218 rfl (lv_at hl 1 rfl) ?_
  refine lv_aload_n hx hb dL_law_219 rfl (lv_at hl 0 rfl) ?_
  refine lv_iload_n hx hb dL_law_220 rfl (lv_at hl 3 rfl) ?_
  refine lv_iconst (v := 1) hx hb dL_law_221 (by decide) ?_
  refine lv_iadd hx hb dL_law_222 ?_
  refine va_sld hx hb hX hbl hbA hS (fl_in (j := 1) ex3 rfl (by omega) hL) dL_law_223 ?_
  refine lr_ci X (lr_runV (n := 1) (rest := []) X (c_X4_modulus l D adr cs (by decide) t (xs (x3 + 1).toNatClampNeg) _ h) hP hS (by decide) (fG_FC adr cs t) rfl (fgV0 mw_11_6 mw_11_7 mw_11_8 mw_1_2 mw_11_9) rfl rfl (by decide +kernel) ⟨Nat.le_of_ble_eq_true rfl, Nat.le_of_ble_eq_true rfl⟩ rfl hl.1 rfl (Nat.le_of_ble_eq_true rfl) dL_law_224 ⟨Nat.le_of_ble_eq_true rfl, Nat.le_of_ble_eq_true rfl⟩) hS (fun r t1 H locs h hP hS => ?_)
  refine lv_aload_n hx hb dL_law_227 rfl (lv_at hl 2 rfl) ?_
  refine lv_aload_n hx hb dL_law_228 rfl (lv_at hl 0 rfl) ?_
  refine lv_iload_n hx hb dL_law_229 rfl (lv_at hl 3 rfl) ?_
  refine lv_iconst (v := 1) hx hb dL_law_230 (by decide) ?_
  refine lv_iadd hx hb dL_law_231 ?_
  refine va_sld hx hb hX hbl hbA hS (fl_in (j := 1) ex3 rfl (by omega) hL) dL_law_232 ?_
  refine lr_ci X (lr_runV (n := 1) (rest := [.int r]) X (c_X5_modulus l D adr cs (by decide) t1 (xs (x3 + 1).toNatClampNeg) _ h) hP hS (by decide) (fG_MO adr cs t1) rfl (fgV0 mw_11_10 mw_11_11 mw_11_12 mw_1_5 mw_11_13) rfl rfl (by decide +kernel) ⟨Nat.le_of_ble_eq_true rfl, Nat.le_of_ble_eq_true rfl⟩ rfl hl.1 rfl (Nat.le_of_ble_eq_true rfl) dL_law_233 ⟨Nat.le_of_ble_eq_true rfl, Nat.le_of_ble_eq_true rfl⟩) hS (fun r2 t2 H locs h hP hS => ?_)
  refine lv_icmp_eq (tgt := 1207) hx hb dL_law_236 (by decide) (fun _ => ?_) (fun c9 => absurd h.1 c9)
  exact kk t2 H locs h.2 hP hS

set_option maxHeartbeats 4000000 in
set_option maxRecDepth 100000 in
theorem lc_3 {D : va_G} {adr : Nat → Nat} {cs : Nat → ClassId} {p : Program} {l : Launch} {e : Env} {s : State} {m : MethodId} {below : List Frame} {meth : Method} {c : Code} {b L : Nat} {xs : Nat → Int32} (hL : L ≤ 2560) (X : fLx D adr cs p s m b L xs c) {Inv : fcS → Prop} (hOK : fOK_4 Inv) {i : Nat} (hi : i + 5 ≤ L) {x3 : Int32} (ex3 : x3 = nI i) {t : fcS} (ht : Inv t) {H : Heap} {locs : List Loc} {ls : Array Slot} (hP : va_P D vwCl (fwl adr 67 (fG adr cs t)) H) (hS : va_S (fun q => s.heap.size ≤ q) s.heap H locs) (hl : lv_has ls 4 [(0, .ref b), (1, .ref (adr 0)), (2, .ref (adr 53)), (3, .int x3)])
    (kk : ∀ (t : fcS) (H : Heap) (locs : List Loc), Inv t → va_P D vwCl (fwl adr 67 (fG adr cs t)) H → va_S (fun q => s.heap.size ≤ q) s.heap H locs → W p l e room_1 s m #[Value.ref b] below meth c H locs 67 10343 (lw_Z below #[Value.ref b] s) (F0 m 1207 ls [])) : W p l e room_1 s m #[Value.ref b] below meth c H locs 67 10343 (lw_Z below #[Value.ref b] s) (F0 m 241 ls []) := by
  have hx := X.1.1
  have hb := X.1.2.1
  have hX := X.2.2.2.2.2.2.1
  have hbl := X.2.2.2.2.2.2.2
  have hbA : ¬ (fun q : Nat => s.heap.size ≤ q) b := Nat.not_le.mpr hbl
  have h := hOK t (xs (x3 + 1).toNatClampNeg) (xs (x3 + 2).toNatClampNeg) (xs (x3 + 3).toNatClampNeg) ht
  refine lv_aload_n hx hb dL_law_241 rfl (lv_at hl 1 rfl) ?_
  refine lv_aload_n hx hb dL_law_242 rfl (lv_at hl 0 rfl) ?_
  refine lv_iload_n hx hb dL_law_243 rfl (lv_at hl 3 rfl) ?_
  refine lv_iconst (v := 1) hx hb dL_law_244 (by decide) ?_
  refine lv_iadd hx hb dL_law_245 ?_
  refine va_sld hx hb hX hbl hbA hS (fl_in (j := 1) ex3 rfl (by omega) hL) dL_law_246 ?_
  refine lv_aload_n hx hb dL_law_247 rfl (lv_at hl 0 rfl) ?_
  refine lv_iload_n hx hb dL_law_248 rfl (lv_at hl 3 rfl) ?_
  refine lv_iconst (v := 2) hx hb dL_law_249 (by decide) ?_
  refine lv_iadd hx hb dL_law_250 ?_
  refine va_sld hx hb hX hbl hbA hS (fl_in (j := 2) ex3 rfl (by omega) hL) dL_law_251 ?_
  refine lv_aload_n hx hb dL_law_252 rfl (lv_at hl 0 rfl) ?_
  refine lv_iload_n hx hb dL_law_253 rfl (lv_at hl 3 rfl) ?_
  refine lv_iconst (v := 3) hx hb dL_law_254 (by decide) ?_
  refine lv_iadd hx hb dL_law_255 ?_
  refine va_sld hx hb hX hbl hbA hS (fl_in (j := 3) ex3 rfl (by omega) hL) dL_law_256 ?_
  refine lr_ci X (lr_runV (n := 3) (rest := []) X (c_X4_plus l D adr cs (by decide) t (xs (x3 + 1).toNatClampNeg) (xs (x3 + 2).toNatClampNeg) (xs (x3 + 3).toNatClampNeg) _ h) hP hS (by decide) (fG_FC adr cs t) rfl (fgV0 mw_11_14 mw_11_15 mw_11_16 mw_1_2 mw_11_17) rfl rfl (by decide +kernel) ⟨Nat.le_of_ble_eq_true rfl, Nat.le_of_ble_eq_true rfl⟩ rfl hl.1 rfl (Nat.le_of_ble_eq_true rfl) dL_law_257 ⟨Nat.le_of_ble_eq_true rfl, Nat.le_of_ble_eq_true rfl⟩) hS (fun r t1 H locs h hP hS => ?_)
  refine lv_aload_n hx hb dL_law_260 rfl (lv_at hl 2 rfl) ?_
  refine lv_aload_n hx hb dL_law_261 rfl (lv_at hl 0 rfl) ?_
  refine lv_iload_n hx hb dL_law_262 rfl (lv_at hl 3 rfl) ?_
  refine lv_iconst (v := 1) hx hb dL_law_263 (by decide) ?_
  refine lv_iadd hx hb dL_law_264 ?_
  refine va_sld hx hb hX hbl hbA hS (fl_in (j := 1) ex3 rfl (by omega) hL) dL_law_265 ?_
  refine lv_aload_n hx hb dL_law_266 rfl (lv_at hl 0 rfl) ?_
  refine lv_iload_n hx hb dL_law_267 rfl (lv_at hl 3 rfl) ?_
  refine lv_iconst (v := 2) hx hb dL_law_268 (by decide) ?_
  refine lv_iadd hx hb dL_law_269 ?_
  refine va_sld hx hb hX hbl hbA hS (fl_in (j := 2) ex3 rfl (by omega) hL) dL_law_270 ?_
  refine lv_aload_n hx hb dL_law_271 rfl (lv_at hl 0 rfl) ?_
  refine lv_iload_n hx hb dL_law_272 rfl (lv_at hl 3 rfl) ?_
  refine lv_iconst (v := 3) hx hb dL_law_273 (by decide) ?_
  refine lv_iadd hx hb dL_law_274 ?_
  refine va_sld hx hb hX hbl hbA hS (fl_in (j := 3) ex3 rfl (by omega) hL) dL_law_275 ?_
  refine lr_ci X (lr_runV (n := 3) (rest := [.int r]) X (c_X5_plus l D adr cs (by decide) t1 (xs (x3 + 1).toNatClampNeg) (xs (x3 + 2).toNatClampNeg) (xs (x3 + 3).toNatClampNeg) _ h) hP hS (by decide) (fG_MO adr cs t1) rfl (fgV0 mw_11_23 mw_12_0 mw_12_1 mw_1_5 mw_12_2) rfl rfl (by decide +kernel) ⟨Nat.le_of_ble_eq_true rfl, Nat.le_of_ble_eq_true rfl⟩ rfl hl.1 rfl (Nat.le_of_ble_eq_true rfl) dL_law_276 ⟨Nat.le_of_ble_eq_true rfl, Nat.le_of_ble_eq_true rfl⟩) hS (fun r2 t2 H locs h hP hS => ?_)
  refine lv_icmp_eq (tgt := 1207) hx hb dL_law_279 (by decide) (fun _ => ?_) (fun c9 => absurd h.1 c9)
  exact kk t2 H locs h.2 hP hS

set_option maxHeartbeats 4000000 in
set_option maxRecDepth 100000 in
theorem lc_4 {D : va_G} {adr : Nat → Nat} {cs : Nat → ClassId} {p : Program} {l : Launch} {e : Env} {s : State} {m : MethodId} {below : List Frame} {meth : Method} {c : Code} {b L : Nat} {xs : Nat → Int32} (hL : L ≤ 2560) (X : fLx D adr cs p s m b L xs c) {Inv : fcS → Prop} (hOK : fOK_5 Inv) {i : Nat} (hi : i + 5 ≤ L) {x3 : Int32} (ex3 : x3 = nI i) {t : fcS} (ht : Inv t) {H : Heap} {locs : List Loc} {ls : Array Slot} (hP : va_P D vwCl (fwl adr 67 (fG adr cs t)) H) (hS : va_S (fun q => s.heap.size ≤ q) s.heap H locs) (hl : lv_has ls 4 [(0, .ref b), (1, .ref (adr 0)), (2, .ref (adr 53)), (3, .int x3)])
    (kk : ∀ (t : fcS) (H : Heap) (locs : List Loc), Inv t → va_P D vwCl (fwl adr 67 (fG adr cs t)) H → va_S (fun q => s.heap.size ≤ q) s.heap H locs → W p l e room_1 s m #[Value.ref b] below meth c H locs 67 10343 (lw_Z below #[Value.ref b] s) (F0 m 1207 ls [])) : W p l e room_1 s m #[Value.ref b] below meth c H locs 67 10343 (lw_Z below #[Value.ref b] s) (F0 m 284 ls []) := by
  have hx := X.1.1
  have hb := X.1.2.1
  have hX := X.2.2.2.2.2.2.1
  have hbl := X.2.2.2.2.2.2.2
  have hbA : ¬ (fun q : Nat => s.heap.size ≤ q) b := Nat.not_le.mpr hbl
  have h := hOK t (xs (x3 + 1).toNatClampNeg) (xs (x3 + 2).toNatClampNeg) (xs (x3 + 3).toNatClampNeg) ht
  refine lv_aload_n hx hb dL_law_284 rfl (lv_at hl 1 rfl) ?_
  refine lv_aload_n hx hb dL_law_285 rfl (lv_at hl 0 rfl) ?_
  refine lv_iload_n hx hb dL_law_286 rfl (lv_at hl 3 rfl) ?_
  refine lv_iconst (v := 1) hx hb dL_law_287 (by decide) ?_
  refine lv_iadd hx hb dL_law_288 ?_
  refine va_sld hx hb hX hbl hbA hS (fl_in (j := 1) ex3 rfl (by omega) hL) dL_law_289 ?_
  refine lv_aload_n hx hb dL_law_290 rfl (lv_at hl 0 rfl) ?_
  refine lv_iload_n hx hb dL_law_291 rfl (lv_at hl 3 rfl) ?_
  refine lv_iconst (v := 2) hx hb dL_law_292 (by decide) ?_
  refine lv_iadd hx hb dL_law_293 ?_
  refine va_sld hx hb hX hbl hbA hS (fl_in (j := 2) ex3 rfl (by omega) hL) dL_law_294 ?_
  refine lv_aload_n hx hb dL_law_295 rfl (lv_at hl 0 rfl) ?_
  refine lv_iload_n hx hb dL_law_296 rfl (lv_at hl 3 rfl) ?_
  refine lv_iconst (v := 3) hx hb dL_law_297 (by decide) ?_
  refine lv_iadd hx hb dL_law_298 ?_
  refine va_sld hx hb hX hbl hbA hS (fl_in (j := 3) ex3 rfl (by omega) hL) dL_law_299 ?_
  refine lr_ci X (lr_runV (n := 3) (rest := []) X (c_X4_times l D adr cs (by decide) t (xs (x3 + 1).toNatClampNeg) (xs (x3 + 2).toNatClampNeg) (xs (x3 + 3).toNatClampNeg) _ h) hP hS (by decide) (fG_FC adr cs t) rfl (fgV0 mw_12_11 mw_12_12 mw_12_13 mw_1_2 mw_12_14) rfl rfl (by decide +kernel) ⟨Nat.le_of_ble_eq_true rfl, Nat.le_of_ble_eq_true rfl⟩ rfl hl.1 rfl (Nat.le_of_ble_eq_true rfl) dL_law_300 ⟨Nat.le_of_ble_eq_true rfl, Nat.le_of_ble_eq_true rfl⟩) hS (fun r t1 H locs h hP hS => ?_)
  refine lv_aload_n hx hb dL_law_303 rfl (lv_at hl 2 rfl) ?_
  refine lv_aload_n hx hb dL_law_304 rfl (lv_at hl 0 rfl) ?_
  refine lv_iload_n hx hb dL_law_305 rfl (lv_at hl 3 rfl) ?_
  refine lv_iconst (v := 1) hx hb dL_law_306 (by decide) ?_
  refine lv_iadd hx hb dL_law_307 ?_
  refine va_sld hx hb hX hbl hbA hS (fl_in (j := 1) ex3 rfl (by omega) hL) dL_law_308 ?_
  refine lv_aload_n hx hb dL_law_309 rfl (lv_at hl 0 rfl) ?_
  refine lv_iload_n hx hb dL_law_310 rfl (lv_at hl 3 rfl) ?_
  refine lv_iconst (v := 2) hx hb dL_law_311 (by decide) ?_
  refine lv_iadd hx hb dL_law_312 ?_
  refine va_sld hx hb hX hbl hbA hS (fl_in (j := 2) ex3 rfl (by omega) hL) dL_law_313 ?_
  refine lv_aload_n hx hb dL_law_314 rfl (lv_at hl 0 rfl) ?_
  refine lv_iload_n hx hb dL_law_315 rfl (lv_at hl 3 rfl) ?_
  refine lv_iconst (v := 3) hx hb dL_law_316 (by decide) ?_
  refine lv_iadd hx hb dL_law_317 ?_
  refine va_sld hx hb hX hbl hbA hS (fl_in (j := 3) ex3 rfl (by omega) hL) dL_law_318 ?_
  refine lr_ci X (lr_runV (n := 3) (rest := [.int r]) X (c_X5_times l D adr cs (by decide) t1 (xs (x3 + 1).toNatClampNeg) (xs (x3 + 2).toNatClampNeg) (xs (x3 + 3).toNatClampNeg) _ h) hP hS (by decide) (fG_MO adr cs t1) rfl (fgV0 mw_12_19 mw_12_20 mw_12_21 mw_1_5 mw_12_22) rfl rfl (by decide +kernel) ⟨Nat.le_of_ble_eq_true rfl, Nat.le_of_ble_eq_true rfl⟩ rfl hl.1 rfl (Nat.le_of_ble_eq_true rfl) dL_law_319 ⟨Nat.le_of_ble_eq_true rfl, Nat.le_of_ble_eq_true rfl⟩) hS (fun r2 t2 H locs h hP hS => ?_)
  refine lv_icmp_eq (tgt := 1207) hx hb dL_law_322 (by decide) (fun _ => ?_) (fun c9 => absurd h.1 c9)
  exact kk t2 H locs h.2 hP hS

set_option maxHeartbeats 4000000 in
set_option maxRecDepth 100000 in
theorem lc_5 {D : va_G} {adr : Nat → Nat} {cs : Nat → ClassId} {p : Program} {l : Launch} {e : Env} {s : State} {m : MethodId} {below : List Frame} {meth : Method} {c : Code} {b L : Nat} {xs : Nat → Int32} (hL : L ≤ 2560) (X : fLx D adr cs p s m b L xs c) {Inv : fcS → Prop} (hOK : fOK_6 Inv) {i : Nat} (hi : i + 5 ≤ L) {x3 : Int32} (ex3 : x3 = nI i) {t : fcS} (ht : Inv t) {H : Heap} {locs : List Loc} {ls : Array Slot} (hP : va_P D vwCl (fwl adr 67 (fG adr cs t)) H) (hS : va_S (fun q => s.heap.size ≤ q) s.heap H locs) (hl : lv_has ls 4 [(0, .ref b), (1, .ref (adr 0)), (2, .ref (adr 53)), (3, .int x3)])
    (kk : ∀ (t : fcS) (H : Heap) (locs : List Loc), Inv t → va_P D vwCl (fwl adr 67 (fG adr cs t)) H → va_S (fun q => s.heap.size ≤ q) s.heap H locs → W p l e room_1 s m #[Value.ref b] below meth c H locs 67 10343 (lw_Z below #[Value.ref b] s) (F0 m 1207 ls [])) : W p l e room_1 s m #[Value.ref b] below meth c H locs 67 10343 (lw_Z below #[Value.ref b] s) (F0 m 327 ls []) := by
  have hx := X.1.1
  have hb := X.1.2.1
  have hX := X.2.2.2.2.2.2.1
  have hbl := X.2.2.2.2.2.2.2
  have hbA : ¬ (fun q : Nat => s.heap.size ≤ q) b := Nat.not_le.mpr hbl
  have h := hOK t (xs (x3 + 1).toNatClampNeg) (xs (x3 + 2).toNatClampNeg) ht
  refine lv_aload_n hx hb dL_law_327 rfl (lv_at hl 1 rfl) ?_
  refine lv_aload_n hx hb dL_law_328 rfl (lv_at hl 0 rfl) ?_
  refine lv_iload_n hx hb dL_law_329 rfl (lv_at hl 3 rfl) ?_
  refine lv_iconst (v := 1) hx hb dL_law_330 (by decide) ?_
  refine lv_iadd hx hb dL_law_331 ?_
  refine va_sld hx hb hX hbl hbA hS (fl_in (j := 1) ex3 rfl (by omega) hL) dL_law_332 ?_
  refine lv_aload_n hx hb dL_law_333 rfl (lv_at hl 0 rfl) ?_
  refine lv_iload_n hx hb dL_law_334 rfl (lv_at hl 3 rfl) ?_
  refine lv_iconst (v := 2) hx hb dL_law_335 (by decide) ?_
  refine lv_iadd hx hb dL_law_336 ?_
  refine va_sld hx hb hX hbl hbA hS (fl_in (j := 2) ex3 rfl (by omega) hL) dL_law_337 ?_
  refine lr_ci X (lr_runV (n := 2) (rest := []) X (c_X4_over l D adr cs (by decide) t (xs (x3 + 1).toNatClampNeg) (xs (x3 + 2).toNatClampNeg) _ h) hP hS (by decide) (fG_FC adr cs t) rfl (fgV0 mw_12_23 mw_13_0 mw_13_1 mw_1_2 mw_13_2) rfl rfl (by decide +kernel) ⟨Nat.le_of_ble_eq_true rfl, Nat.le_of_ble_eq_true rfl⟩ rfl hl.1 rfl (Nat.le_of_ble_eq_true rfl) dL_law_338 ⟨Nat.le_of_ble_eq_true rfl, Nat.le_of_ble_eq_true rfl⟩) hS (fun r t1 H locs h hP hS => ?_)
  refine lv_aload_n hx hb dL_law_341 rfl (lv_at hl 2 rfl) ?_
  refine lv_aload_n hx hb dL_law_342 rfl (lv_at hl 0 rfl) ?_
  refine lv_iload_n hx hb dL_law_343 rfl (lv_at hl 3 rfl) ?_
  refine lv_iconst (v := 1) hx hb dL_law_344 (by decide) ?_
  refine lv_iadd hx hb dL_law_345 ?_
  refine va_sld hx hb hX hbl hbA hS (fl_in (j := 1) ex3 rfl (by omega) hL) dL_law_346 ?_
  refine lv_aload_n hx hb dL_law_347 rfl (lv_at hl 0 rfl) ?_
  refine lv_iload_n hx hb dL_law_348 rfl (lv_at hl 3 rfl) ?_
  refine lv_iconst (v := 2) hx hb dL_law_349 (by decide) ?_
  refine lv_iadd hx hb dL_law_350 ?_
  refine va_sld hx hb hX hbl hbA hS (fl_in (j := 2) ex3 rfl (by omega) hL) dL_law_351 ?_
  refine lr_ci X (lr_runV (n := 2) (rest := [.int r]) X (c_X5_over l D adr cs (by decide) t1 (xs (x3 + 1).toNatClampNeg) (xs (x3 + 2).toNatClampNeg) _ h) hP hS (by decide) (fG_MO adr cs t1) rfl (fgV0 mw_13_7 mw_13_8 mw_13_9 mw_1_5 mw_13_10) rfl rfl (by decide +kernel) ⟨Nat.le_of_ble_eq_true rfl, Nat.le_of_ble_eq_true rfl⟩ rfl hl.1 rfl (Nat.le_of_ble_eq_true rfl) dL_law_352 ⟨Nat.le_of_ble_eq_true rfl, Nat.le_of_ble_eq_true rfl⟩) hS (fun r2 t2 H locs h hP hS => ?_)
  refine lv_icmp_eq (tgt := 1207) hx hb dL_law_355 (by decide) (fun _ => ?_) (fun c9 => absurd h.1 c9)
  exact kk t2 H locs h.2 hP hS

set_option maxHeartbeats 4000000 in
set_option maxRecDepth 100000 in
theorem lc_6 {D : va_G} {adr : Nat → Nat} {cs : Nat → ClassId} {p : Program} {l : Launch} {e : Env} {s : State} {m : MethodId} {below : List Frame} {meth : Method} {c : Code} {b L : Nat} {xs : Nat → Int32} (hL : L ≤ 2560) (X : fLx D adr cs p s m b L xs c) {Inv : fcS → Prop} (hOK : fOK_7 Inv) {i : Nat} (hi : i + 5 ≤ L) {x3 : Int32} (ex3 : x3 = nI i) {t : fcS} (ht : Inv t) {H : Heap} {locs : List Loc} {ls : Array Slot} (hP : va_P D vwCl (fwl adr 67 (fG adr cs t)) H) (hS : va_S (fun q => s.heap.size ≤ q) s.heap H locs) (hl : lv_has ls 4 [(0, .ref b), (1, .ref (adr 0)), (2, .ref (adr 53)), (3, .int x3)])
    (kk : ∀ (t : fcS) (H : Heap) (locs : List Loc), Inv t → va_P D vwCl (fwl adr 67 (fG adr cs t)) H → va_S (fun q => s.heap.size ≤ q) s.heap H locs → W p l e room_1 s m #[Value.ref b] below meth c H locs 67 10343 (lw_Z below #[Value.ref b] s) (F0 m 1207 ls [])) : W p l e room_1 s m #[Value.ref b] below meth c H locs 67 10343 (lw_Z below #[Value.ref b] s) (F0 m 360 ls []) := by
  have hx := X.1.1
  have hb := X.1.2.1
  have hX := X.2.2.2.2.2.2.1
  have hbl := X.2.2.2.2.2.2.2
  have hbA : ¬ (fun q : Nat => s.heap.size ≤ q) b := Nat.not_le.mpr hbl
  have h := hOK t (xs (x3 + 1).toNatClampNeg) (xs (x3 + 2).toNatClampNeg) (xs (x3 + 3).toNatClampNeg) ht
  refine lv_aload_n hx hb dL_law_360 rfl (lv_at hl 1 rfl) ?_
  refine lv_aload_n hx hb dL_law_361 rfl (lv_at hl 0 rfl) ?_
  refine lv_iload_n hx hb dL_law_362 rfl (lv_at hl 3 rfl) ?_
  refine lv_iconst (v := 1) hx hb dL_law_363 (by decide) ?_
  refine lv_iadd hx hb dL_law_364 ?_
  refine va_sld hx hb hX hbl hbA hS (fl_in (j := 1) ex3 rfl (by omega) hL) dL_law_365 ?_
  refine lv_aload_n hx hb dL_law_366 rfl (lv_at hl 0 rfl) ?_
  refine lv_iload_n hx hb dL_law_367 rfl (lv_at hl 3 rfl) ?_
  refine lv_iconst (v := 2) hx hb dL_law_368 (by decide) ?_
  refine lv_iadd hx hb dL_law_369 ?_
  refine va_sld hx hb hX hbl hbA hS (fl_in (j := 2) ex3 rfl (by omega) hL) dL_law_370 ?_
  refine lv_aload_n hx hb dL_law_371 rfl (lv_at hl 0 rfl) ?_
  refine lv_iload_n hx hb dL_law_372 rfl (lv_at hl 3 rfl) ?_
  refine lv_iconst (v := 3) hx hb dL_law_373 (by decide) ?_
  refine lv_iadd hx hb dL_law_374 ?_
  refine va_sld hx hb hX hbl hbA hS (fl_in (j := 3) ex3 rfl (by omega) hL) dL_law_375 ?_
  refine lr_ci X (lr_runV (n := 3) (rest := []) X (c_X4_raise l D adr cs (by decide) t (xs (x3 + 1).toNatClampNeg) (xs (x3 + 2).toNatClampNeg) (xs (x3 + 3).toNatClampNeg) _ h) hP hS (by decide) (fG_FC adr cs t) rfl (fgV0 mw_13_11 mw_13_12 mw_13_13 mw_1_2 mw_13_14) rfl rfl (by decide +kernel) ⟨Nat.le_of_ble_eq_true rfl, Nat.le_of_ble_eq_true rfl⟩ rfl hl.1 rfl (Nat.le_of_ble_eq_true rfl) dL_law_376 ⟨Nat.le_of_ble_eq_true rfl, Nat.le_of_ble_eq_true rfl⟩) hS (fun r t1 H locs h hP hS => ?_)
  refine lv_aload_n hx hb dL_law_379 rfl (lv_at hl 2 rfl) ?_
  refine lv_aload_n hx hb dL_law_380 rfl (lv_at hl 0 rfl) ?_
  refine lv_iload_n hx hb dL_law_381 rfl (lv_at hl 3 rfl) ?_
  refine lv_iconst (v := 1) hx hb dL_law_382 (by decide) ?_
  refine lv_iadd hx hb dL_law_383 ?_
  refine va_sld hx hb hX hbl hbA hS (fl_in (j := 1) ex3 rfl (by omega) hL) dL_law_384 ?_
  refine lv_aload_n hx hb dL_law_385 rfl (lv_at hl 0 rfl) ?_
  refine lv_iload_n hx hb dL_law_386 rfl (lv_at hl 3 rfl) ?_
  refine lv_iconst (v := 2) hx hb dL_law_387 (by decide) ?_
  refine lv_iadd hx hb dL_law_388 ?_
  refine va_sld hx hb hX hbl hbA hS (fl_in (j := 2) ex3 rfl (by omega) hL) dL_law_389 ?_
  refine lv_aload_n hx hb dL_law_390 rfl (lv_at hl 0 rfl) ?_
  refine lv_iload_n hx hb dL_law_391 rfl (lv_at hl 3 rfl) ?_
  refine lv_iconst (v := 3) hx hb dL_law_392 (by decide) ?_
  refine lv_iadd hx hb dL_law_393 ?_
  refine va_sld hx hb hX hbl hbA hS (fl_in (j := 3) ex3 rfl (by omega) hL) dL_law_394 ?_
  refine lr_ci X (lr_runV (n := 3) (rest := [.int r]) X (c_X5_raise l D adr cs (by decide) t1 (xs (x3 + 1).toNatClampNeg) (xs (x3 + 2).toNatClampNeg) (xs (x3 + 3).toNatClampNeg) _ h) hP hS (by decide) (fG_MO adr cs t1) rfl (fgV0 mw_13_15 mw_13_16 mw_13_17 mw_1_5 mw_13_18) rfl rfl (by decide +kernel) ⟨Nat.le_of_ble_eq_true rfl, Nat.le_of_ble_eq_true rfl⟩ rfl hl.1 rfl (Nat.le_of_ble_eq_true rfl) dL_law_395 ⟨Nat.le_of_ble_eq_true rfl, Nat.le_of_ble_eq_true rfl⟩) hS (fun r2 t2 H locs h hP hS => ?_)
  refine lv_icmp_eq (tgt := 1207) hx hb dL_law_398 (by decide) (fun _ => ?_) (fun c9 => absurd h.1 c9)
  exact kk t2 H locs h.2 hP hS

set_option maxHeartbeats 4000000 in
set_option maxRecDepth 100000 in
theorem lc_7 {D : va_G} {adr : Nat → Nat} {cs : Nat → ClassId} {p : Program} {l : Launch} {e : Env} {s : State} {m : MethodId} {below : List Frame} {meth : Method} {c : Code} {b L : Nat} {xs : Nat → Int32} (hL : L ≤ 2560) (X : fLx D adr cs p s m b L xs c) {Inv : fcS → Prop} (hOK : fOK_8 Inv) {i : Nat} (hi : i + 5 ≤ L) {x3 : Int32} (ex3 : x3 = nI i) {t : fcS} (ht : Inv t) {H : Heap} {locs : List Loc} {ls : Array Slot} (hP : va_P D vwCl (fwl adr 67 (fG adr cs t)) H) (hS : va_S (fun q => s.heap.size ≤ q) s.heap H locs) (hl : lv_has ls 4 [(0, .ref b), (1, .ref (adr 0)), (2, .ref (adr 53)), (3, .int x3)])
    (kk : ∀ (t : fcS) (H : Heap) (locs : List Loc), Inv t → va_P D vwCl (fwl adr 67 (fG adr cs t)) H → va_S (fun q => s.heap.size ≤ q) s.heap H locs → W p l e room_1 s m #[Value.ref b] below meth c H locs 67 10343 (lw_Z below #[Value.ref b] s) (F0 m 1207 ls [])) : W p l e room_1 s m #[Value.ref b] below meth c H locs 67 10343 (lw_Z below #[Value.ref b] s) (F0 m 403 ls []) := by
  have hx := X.1.1
  have hb := X.1.2.1
  have hX := X.2.2.2.2.2.2.1
  have hbl := X.2.2.2.2.2.2.2
  have hbA : ¬ (fun q : Nat => s.heap.size ≤ q) b := Nat.not_le.mpr hbl
  have h := hOK t (xs (x3 + 1).toNatClampNeg) (xs (x3 + 2).toNatClampNeg) ht
  refine lv_aload_n hx hb dL_law_403 rfl (lv_at hl 1 rfl) ?_
  refine lv_aload_n hx hb dL_law_404 rfl (lv_at hl 0 rfl) ?_
  refine lv_iload_n hx hb dL_law_405 rfl (lv_at hl 3 rfl) ?_
  refine lv_iconst (v := 1) hx hb dL_law_406 (by decide) ?_
  refine lv_iadd hx hb dL_law_407 ?_
  refine va_sld hx hb hX hbl hbA hS (fl_in (j := 1) ex3 rfl (by omega) hL) dL_law_408 ?_
  refine lv_aload_n hx hb dL_law_409 rfl (lv_at hl 0 rfl) ?_
  refine lv_iload_n hx hb dL_law_410 rfl (lv_at hl 3 rfl) ?_
  refine lv_iconst (v := 2) hx hb dL_law_411 (by decide) ?_
  refine lv_iadd hx hb dL_law_412 ?_
  refine va_sld hx hb hX hbl hbA hS (fl_in (j := 2) ex3 rfl (by omega) hL) dL_law_413 ?_
  refine lr_ci X (lr_runV (n := 2) (rest := []) X (c_X4_sign l D adr cs (by decide) t (xs (x3 + 1).toNatClampNeg) (xs (x3 + 2).toNatClampNeg) _ h) hP hS (by decide) (fG_FC adr cs t) rfl (fgV0 mw_13_23 mw_14_0 mw_14_1 mw_1_2 mw_14_2) rfl rfl (by decide +kernel) ⟨Nat.le_of_ble_eq_true rfl, Nat.le_of_ble_eq_true rfl⟩ rfl hl.1 rfl (Nat.le_of_ble_eq_true rfl) dL_law_414 ⟨Nat.le_of_ble_eq_true rfl, Nat.le_of_ble_eq_true rfl⟩) hS (fun r t1 H locs h hP hS => ?_)
  refine lv_aload_n hx hb dL_law_417 rfl (lv_at hl 2 rfl) ?_
  refine lv_aload_n hx hb dL_law_418 rfl (lv_at hl 0 rfl) ?_
  refine lv_iload_n hx hb dL_law_419 rfl (lv_at hl 3 rfl) ?_
  refine lv_iconst (v := 1) hx hb dL_law_420 (by decide) ?_
  refine lv_iadd hx hb dL_law_421 ?_
  refine va_sld hx hb hX hbl hbA hS (fl_in (j := 1) ex3 rfl (by omega) hL) dL_law_422 ?_
  refine lv_aload_n hx hb dL_law_423 rfl (lv_at hl 0 rfl) ?_
  refine lv_iload_n hx hb dL_law_424 rfl (lv_at hl 3 rfl) ?_
  refine lv_iconst (v := 2) hx hb dL_law_425 (by decide) ?_
  refine lv_iadd hx hb dL_law_426 ?_
  refine va_sld hx hb hX hbl hbA hS (fl_in (j := 2) ex3 rfl (by omega) hL) dL_law_427 ?_
  refine lr_ci X (lr_runV (n := 2) (rest := [.int r]) X (c_X5_sign l D adr cs (by decide) t1 (xs (x3 + 1).toNatClampNeg) (xs (x3 + 2).toNatClampNeg) _ h) hP hS (by decide) (fG_MO adr cs t1) rfl (fgV0 mw_14_4 mw_14_5 mw_14_6 mw_1_5 mw_14_7) rfl rfl (by decide +kernel) ⟨Nat.le_of_ble_eq_true rfl, Nat.le_of_ble_eq_true rfl⟩ rfl hl.1 rfl (Nat.le_of_ble_eq_true rfl) dL_law_428 ⟨Nat.le_of_ble_eq_true rfl, Nat.le_of_ble_eq_true rfl⟩) hS (fun r2 t2 H locs h hP hS => ?_)
  refine lv_icmp_eq (tgt := 1207) hx hb dL_law_431 (by decide) (fun _ => ?_) (fun c9 => absurd h.1 c9)
  exact kk t2 H locs h.2 hP hS

set_option maxHeartbeats 4000000 in
set_option maxRecDepth 100000 in
theorem lc_8 {D : va_G} {adr : Nat → Nat} {cs : Nat → ClassId} {p : Program} {l : Launch} {e : Env} {s : State} {m : MethodId} {below : List Frame} {meth : Method} {c : Code} {b L : Nat} {xs : Nat → Int32} (hL : L ≤ 2560) (X : fLx D adr cs p s m b L xs c) {Inv : fcS → Prop} (hOK : fOK_9 Inv) {i : Nat} (hi : i + 5 ≤ L) {x3 : Int32} (ex3 : x3 = nI i) {t : fcS} (ht : Inv t) {H : Heap} {locs : List Loc} {ls : Array Slot} (hP : va_P D vwCl (fwl adr 67 (fG adr cs t)) H) (hS : va_S (fun q => s.heap.size ≤ q) s.heap H locs) (hl : lv_has ls 4 [(0, .ref b), (1, .ref (adr 0)), (2, .ref (adr 53)), (3, .int x3)])
    (kk : ∀ (t : fcS) (H : Heap) (locs : List Loc), Inv t → va_P D vwCl (fwl adr 67 (fG adr cs t)) H → va_S (fun q => s.heap.size ≤ q) s.heap H locs → W p l e room_1 s m #[Value.ref b] below meth c H locs 67 10343 (lw_Z below #[Value.ref b] s) (F0 m 1207 ls [])) : W p l e room_1 s m #[Value.ref b] below meth c H locs 67 10343 (lw_Z below #[Value.ref b] s) (F0 m 436 ls []) := by
  have hx := X.1.1
  have hb := X.1.2.1
  have hX := X.2.2.2.2.2.2.1
  have hbl := X.2.2.2.2.2.2.2
  have hbA : ¬ (fun q : Nat => s.heap.size ≤ q) b := Nat.not_le.mpr hbl
  have h := hOK t (xs (x3 + 1).toNatClampNeg) (xs (x3 + 2).toNatClampNeg) ht
  refine lv_aload_n hx hb dL_law_436 rfl (lv_at hl 1 rfl) ?_
  refine lv_aload_n hx hb dL_law_437 rfl (lv_at hl 0 rfl) ?_
  refine lv_iload_n hx hb dL_law_438 rfl (lv_at hl 3 rfl) ?_
  refine lv_iconst (v := 1) hx hb dL_law_439 (by decide) ?_
  refine lv_iadd hx hb dL_law_440 ?_
  refine va_sld hx hb hX hbl hbA hS (fl_in (j := 1) ex3 rfl (by omega) hL) dL_law_441 ?_
  refine lv_aload_n hx hb dL_law_442 rfl (lv_at hl 0 rfl) ?_
  refine lv_iload_n hx hb dL_law_443 rfl (lv_at hl 3 rfl) ?_
  refine lv_iconst (v := 2) hx hb dL_law_444 (by decide) ?_
  refine lv_iadd hx hb dL_law_445 ?_
  refine va_sld hx hb hX hbl hbA hS (fl_in (j := 2) ex3 rfl (by omega) hL) dL_law_446 ?_
  refine lr_ci X (lr_runV (n := 2) (rest := []) X (c_X4_turns l D adr cs (by decide) t (xs (x3 + 1).toNatClampNeg) (xs (x3 + 2).toNatClampNeg) _ h) hP hS (by decide) (fG_FC adr cs t) rfl (fgV0 mw_14_9 mw_14_10 mw_14_11 mw_1_2 mw_14_12) rfl rfl (by decide +kernel) ⟨Nat.le_of_ble_eq_true rfl, Nat.le_of_ble_eq_true rfl⟩ rfl hl.1 rfl (Nat.le_of_ble_eq_true rfl) dL_law_447 ⟨Nat.le_of_ble_eq_true rfl, Nat.le_of_ble_eq_true rfl⟩) hS (fun r t1 H locs h hP hS => ?_)
  refine lv_aload_n hx hb dL_law_450 rfl (lv_at hl 2 rfl) ?_
  refine lv_aload_n hx hb dL_law_451 rfl (lv_at hl 0 rfl) ?_
  refine lv_iload_n hx hb dL_law_452 rfl (lv_at hl 3 rfl) ?_
  refine lv_iconst (v := 1) hx hb dL_law_453 (by decide) ?_
  refine lv_iadd hx hb dL_law_454 ?_
  refine va_sld hx hb hX hbl hbA hS (fl_in (j := 1) ex3 rfl (by omega) hL) dL_law_455 ?_
  refine lv_aload_n hx hb dL_law_456 rfl (lv_at hl 0 rfl) ?_
  refine lv_iload_n hx hb dL_law_457 rfl (lv_at hl 3 rfl) ?_
  refine lv_iconst (v := 2) hx hb dL_law_458 (by decide) ?_
  refine lv_iadd hx hb dL_law_459 ?_
  refine va_sld hx hb hX hbl hbA hS (fl_in (j := 2) ex3 rfl (by omega) hL) dL_law_460 ?_
  refine lr_ci X (lr_runV (n := 2) (rest := [.int r]) X (c_X5_turns l D adr cs (by decide) t1 (xs (x3 + 1).toNatClampNeg) (xs (x3 + 2).toNatClampNeg) _ h) hP hS (by decide) (fG_MO adr cs t1) rfl (fgV0 mw_14_17 mw_14_18 mw_14_19 mw_1_5 mw_14_20) rfl rfl (by decide +kernel) ⟨Nat.le_of_ble_eq_true rfl, Nat.le_of_ble_eq_true rfl⟩ rfl hl.1 rfl (Nat.le_of_ble_eq_true rfl) dL_law_461 ⟨Nat.le_of_ble_eq_true rfl, Nat.le_of_ble_eq_true rfl⟩) hS (fun r2 t2 H locs h hP hS => ?_)
  refine lv_icmp_eq (tgt := 1207) hx hb dL_law_464 (by decide) (fun _ => ?_) (fun c9 => absurd h.1 c9)
  exact kk t2 H locs h.2 hP hS

set_option maxHeartbeats 4000000 in
set_option maxRecDepth 100000 in
theorem lc_9 {D : va_G} {adr : Nat → Nat} {cs : Nat → ClassId} {p : Program} {l : Launch} {e : Env} {s : State} {m : MethodId} {below : List Frame} {meth : Method} {c : Code} {b L : Nat} {xs : Nat → Int32} (hL : L ≤ 2560) (X : fLx D adr cs p s m b L xs c) {Inv : fcS → Prop} (hOK : fOK_10 Inv) {i : Nat} (hi : i + 5 ≤ L) {x3 : Int32} (ex3 : x3 = nI i) {t : fcS} (ht : Inv t) {H : Heap} {locs : List Loc} {ls : Array Slot} (hP : va_P D vwCl (fwl adr 67 (fG adr cs t)) H) (hS : va_S (fun q => s.heap.size ≤ q) s.heap H locs) (hl : lv_has ls 4 [(0, .ref b), (1, .ref (adr 0)), (2, .ref (adr 53)), (3, .int x3)])
    (kk : ∀ (t : fcS) (H : Heap) (locs : List Loc), Inv t → va_P D vwCl (fwl adr 67 (fG adr cs t)) H → va_S (fun q => s.heap.size ≤ q) s.heap H locs → W p l e room_1 s m #[Value.ref b] below meth c H locs 67 10343 (lw_Z below #[Value.ref b] s) (F0 m 1207 ls [])) : W p l e room_1 s m #[Value.ref b] below meth c H locs 67 10343 (lw_Z below #[Value.ref b] s) (F0 m 469 ls []) := by
  have hx := X.1.1
  have hb := X.1.2.1
  have hX := X.2.2.2.2.2.2.1
  have hbl := X.2.2.2.2.2.2.2
  have hbA : ¬ (fun q : Nat => s.heap.size ≤ q) b := Nat.not_le.mpr hbl
  have h := hOK t (xs (x3 + 1).toNatClampNeg) (xs (x3 + 2).toNatClampNeg) ht
  refine lv_aload_n hx hb dL_law_469 rfl (lv_at hl 1 rfl) ?_
  refine lv_aload_n hx hb dL_law_470 rfl (lv_at hl 0 rfl) ?_
  refine lv_iload_n hx hb dL_law_471 rfl (lv_at hl 3 rfl) ?_
  refine lv_iconst (v := 1) hx hb dL_law_472 (by decide) ?_
  refine lv_iadd hx hb dL_law_473 ?_
  refine va_sld hx hb hX hbl hbA hS (fl_in (j := 1) ex3 rfl (by omega) hL) dL_law_474 ?_
  refine lv_aload_n hx hb dL_law_475 rfl (lv_at hl 0 rfl) ?_
  refine lv_iload_n hx hb dL_law_476 rfl (lv_at hl 3 rfl) ?_
  refine lv_iconst (v := 2) hx hb dL_law_477 (by decide) ?_
  refine lv_iadd hx hb dL_law_478 ?_
  refine va_sld hx hb hX hbl hbA hS (fl_in (j := 2) ex3 rfl (by omega) hL) dL_law_479 ?_
  refine lr_ci X (lr_runV (n := 2) (rest := []) X (c_X4_trace l D adr cs (by decide) t (xs (x3 + 1).toNatClampNeg) (xs (x3 + 2).toNatClampNeg) _ h) hP hS (by decide) (fG_FC adr cs t) rfl (fgV0 mw_14_21 mw_14_22 mw_14_23 mw_1_2 mw_15_0) rfl rfl (by decide +kernel) ⟨Nat.le_of_ble_eq_true rfl, Nat.le_of_ble_eq_true rfl⟩ rfl hl.1 rfl (Nat.le_of_ble_eq_true rfl) dL_law_480 ⟨Nat.le_of_ble_eq_true rfl, Nat.le_of_ble_eq_true rfl⟩) hS (fun r t1 H locs h hP hS => ?_)
  refine lv_aload_n hx hb dL_law_483 rfl (lv_at hl 2 rfl) ?_
  refine lv_aload_n hx hb dL_law_484 rfl (lv_at hl 0 rfl) ?_
  refine lv_iload_n hx hb dL_law_485 rfl (lv_at hl 3 rfl) ?_
  refine lv_iconst (v := 1) hx hb dL_law_486 (by decide) ?_
  refine lv_iadd hx hb dL_law_487 ?_
  refine va_sld hx hb hX hbl hbA hS (fl_in (j := 1) ex3 rfl (by omega) hL) dL_law_488 ?_
  refine lv_aload_n hx hb dL_law_489 rfl (lv_at hl 0 rfl) ?_
  refine lv_iload_n hx hb dL_law_490 rfl (lv_at hl 3 rfl) ?_
  refine lv_iconst (v := 2) hx hb dL_law_491 (by decide) ?_
  refine lv_iadd hx hb dL_law_492 ?_
  refine va_sld hx hb hX hbl hbA hS (fl_in (j := 2) ex3 rfl (by omega) hL) dL_law_493 ?_
  refine lr_ci X (lr_runV (n := 2) (rest := [.int r]) X (c_X5_trace l D adr cs (by decide) t1 (xs (x3 + 1).toNatClampNeg) (xs (x3 + 2).toNatClampNeg) _ h) hP hS (by decide) (fG_MO adr cs t1) rfl (fgV0 mw_15_1 mw_15_2 mw_15_3 mw_1_5 mw_15_4) rfl rfl (by decide +kernel) ⟨Nat.le_of_ble_eq_true rfl, Nat.le_of_ble_eq_true rfl⟩ rfl hl.1 rfl (Nat.le_of_ble_eq_true rfl) dL_law_494 ⟨Nat.le_of_ble_eq_true rfl, Nat.le_of_ble_eq_true rfl⟩) hS (fun r2 t2 H locs h hP hS => ?_)
  refine lv_icmp_eq (tgt := 1207) hx hb dL_law_497 (by decide) (fun _ => ?_) (fun c9 => absurd h.1 c9)
  exact kk t2 H locs h.2 hP hS

set_option maxHeartbeats 4000000 in
set_option maxRecDepth 100000 in
theorem lc_10 {D : va_G} {adr : Nat → Nat} {cs : Nat → ClassId} {p : Program} {l : Launch} {e : Env} {s : State} {m : MethodId} {below : List Frame} {meth : Method} {c : Code} {b L : Nat} {xs : Nat → Int32} (hL : L ≤ 2560) (X : fLx D adr cs p s m b L xs c) {Inv : fcS → Prop} (hOK : fOK_11 Inv) {i : Nat} (hi : i + 5 ≤ L) {x3 : Int32} (ex3 : x3 = nI i) {t : fcS} (ht : Inv t) {H : Heap} {locs : List Loc} {ls : Array Slot} (hP : va_P D vwCl (fwl adr 67 (fG adr cs t)) H) (hS : va_S (fun q => s.heap.size ≤ q) s.heap H locs) (hl : lv_has ls 4 [(0, .ref b), (1, .ref (adr 0)), (2, .ref (adr 53)), (3, .int x3)])
    (kk : ∀ (t : fcS) (H : Heap) (locs : List Loc), Inv t → va_P D vwCl (fwl adr 67 (fG adr cs t)) H → va_S (fun q => s.heap.size ≤ q) s.heap H locs → W p l e room_1 s m #[Value.ref b] below meth c H locs 67 10343 (lw_Z below #[Value.ref b] s) (F0 m 1207 ls [])) : W p l e room_1 s m #[Value.ref b] below meth c H locs 67 10343 (lw_Z below #[Value.ref b] s) (F0 m 502 ls []) := by
  have hx := X.1.1
  have hb := X.1.2.1
  have hX := X.2.2.2.2.2.2.1
  have hbl := X.2.2.2.2.2.2.2
  have hbA : ¬ (fun q : Nat => s.heap.size ≤ q) b := Nat.not_le.mpr hbl
  have h := hOK t (xs (x3 + 1).toNatClampNeg) (xs (x3 + 2).toNatClampNeg) (xs (x3 + 3).toNatClampNeg) (xs (x3 + 4).toNatClampNeg) ht
  refine lv_aload_n hx hb dL_law_502 rfl (lv_at hl 1 rfl) ?_
  refine lv_aload_n hx hb dL_law_503 rfl (lv_at hl 0 rfl) ?_
  refine lv_iload_n hx hb dL_law_504 rfl (lv_at hl 3 rfl) ?_
  refine lv_iconst (v := 1) hx hb dL_law_505 (by decide) ?_
  refine lv_iadd hx hb dL_law_506 ?_
  refine va_sld hx hb hX hbl hbA hS (fl_in (j := 1) ex3 rfl (by omega) hL) dL_law_507 ?_
  refine lv_aload_n hx hb dL_law_508 rfl (lv_at hl 0 rfl) ?_
  refine lv_iload_n hx hb dL_law_509 rfl (lv_at hl 3 rfl) ?_
  refine lv_iconst (v := 2) hx hb dL_law_510 (by decide) ?_
  refine lv_iadd hx hb dL_law_511 ?_
  refine va_sld hx hb hX hbl hbA hS (fl_in (j := 2) ex3 rfl (by omega) hL) dL_law_512 ?_
  refine lv_aload_n hx hb dL_law_513 rfl (lv_at hl 0 rfl) ?_
  refine lv_iload_n hx hb dL_law_514 rfl (lv_at hl 3 rfl) ?_
  refine lv_iconst (v := 3) hx hb dL_law_515 (by decide) ?_
  refine lv_iadd hx hb dL_law_516 ?_
  refine va_sld hx hb hX hbl hbA hS (fl_in (j := 3) ex3 rfl (by omega) hL) dL_law_517 ?_
  refine lv_aload_n hx hb dL_law_518 rfl (lv_at hl 0 rfl) ?_
  refine lv_iload_n hx hb dL_law_519 rfl (lv_at hl 3 rfl) ?_
  refine lv_iconst (v := 4) hx hb dL_law_520 (by decide) ?_
  refine lv_iadd hx hb dL_law_521 ?_
  refine va_sld hx hb hX hbl hbA hS (fl_in (j := 4) ex3 rfl (by omega) hL) dL_law_522 ?_
  refine lr_ci X (lr_runV (n := 4) (rest := []) X (c_X4_forms l D adr cs (by decide) t (xs (x3 + 1).toNatClampNeg) (xs (x3 + 2).toNatClampNeg) (xs (x3 + 3).toNatClampNeg) (xs (x3 + 4).toNatClampNeg) _ h) hP hS (by decide) (fG_FC adr cs t) rfl (fgV0 mw_15_5 mw_15_6 mw_15_7 mw_1_2 mw_15_8) rfl rfl (by decide +kernel) ⟨Nat.le_of_ble_eq_true rfl, Nat.le_of_ble_eq_true rfl⟩ rfl hl.1 rfl (Nat.le_of_ble_eq_true rfl) dL_law_523 ⟨Nat.le_of_ble_eq_true rfl, Nat.le_of_ble_eq_true rfl⟩) hS (fun r t1 H locs h hP hS => ?_)
  refine lv_aload_n hx hb dL_law_526 rfl (lv_at hl 2 rfl) ?_
  refine lv_aload_n hx hb dL_law_527 rfl (lv_at hl 0 rfl) ?_
  refine lv_iload_n hx hb dL_law_528 rfl (lv_at hl 3 rfl) ?_
  refine lv_iconst (v := 1) hx hb dL_law_529 (by decide) ?_
  refine lv_iadd hx hb dL_law_530 ?_
  refine va_sld hx hb hX hbl hbA hS (fl_in (j := 1) ex3 rfl (by omega) hL) dL_law_531 ?_
  refine lv_aload_n hx hb dL_law_532 rfl (lv_at hl 0 rfl) ?_
  refine lv_iload_n hx hb dL_law_533 rfl (lv_at hl 3 rfl) ?_
  refine lv_iconst (v := 2) hx hb dL_law_534 (by decide) ?_
  refine lv_iadd hx hb dL_law_535 ?_
  refine va_sld hx hb hX hbl hbA hS (fl_in (j := 2) ex3 rfl (by omega) hL) dL_law_536 ?_
  refine lv_aload_n hx hb dL_law_537 rfl (lv_at hl 0 rfl) ?_
  refine lv_iload_n hx hb dL_law_538 rfl (lv_at hl 3 rfl) ?_
  refine lv_iconst (v := 3) hx hb dL_law_539 (by decide) ?_
  refine lv_iadd hx hb dL_law_540 ?_
  refine va_sld hx hb hX hbl hbA hS (fl_in (j := 3) ex3 rfl (by omega) hL) dL_law_541 ?_
  refine lv_aload_n hx hb dL_law_542 rfl (lv_at hl 0 rfl) ?_
  refine lv_iload_n hx hb dL_law_543 rfl (lv_at hl 3 rfl) ?_
  refine lv_iconst (v := 4) hx hb dL_law_544 (by decide) ?_
  refine lv_iadd hx hb dL_law_545 ?_
  refine va_sld hx hb hX hbl hbA hS (fl_in (j := 4) ex3 rfl (by omega) hL) dL_law_546 ?_
  refine lr_ci X (lr_runV (n := 4) (rest := [.int r]) X (c_X5_forms l D adr cs (by decide) t1 (xs (x3 + 1).toNatClampNeg) (xs (x3 + 2).toNatClampNeg) (xs (x3 + 3).toNatClampNeg) (xs (x3 + 4).toNatClampNeg) _ h) hP hS (by decide) (fG_MO adr cs t1) rfl (fgV0 mw_15_16 mw_15_17 mw_15_18 mw_1_5 mw_15_19) rfl rfl (by decide +kernel) ⟨Nat.le_of_ble_eq_true rfl, Nat.le_of_ble_eq_true rfl⟩ rfl hl.1 rfl (Nat.le_of_ble_eq_true rfl) dL_law_547 ⟨Nat.le_of_ble_eq_true rfl, Nat.le_of_ble_eq_true rfl⟩) hS (fun r2 t2 H locs h hP hS => ?_)
  refine lv_icmp_eq (tgt := 1207) hx hb dL_law_550 (by decide) (fun _ => ?_) (fun c9 => absurd h.1 c9)
  exact kk t2 H locs h.2 hP hS

set_option maxHeartbeats 4000000 in
set_option maxRecDepth 100000 in
theorem lc_11 {D : va_G} {adr : Nat → Nat} {cs : Nat → ClassId} {p : Program} {l : Launch} {e : Env} {s : State} {m : MethodId} {below : List Frame} {meth : Method} {c : Code} {b L : Nat} {xs : Nat → Int32} (hL : L ≤ 2560) (X : fLx D adr cs p s m b L xs c) {Inv : fcS → Prop} (hOK : fOK_12 Inv) {i : Nat} (hi : i + 5 ≤ L) {x3 : Int32} (ex3 : x3 = nI i) {t : fcS} (ht : Inv t) {H : Heap} {locs : List Loc} {ls : Array Slot} (hP : va_P D vwCl (fwl adr 67 (fG adr cs t)) H) (hS : va_S (fun q => s.heap.size ≤ q) s.heap H locs) (hl : lv_has ls 4 [(0, .ref b), (1, .ref (adr 0)), (2, .ref (adr 53)), (3, .int x3)])
    (kk : ∀ (t : fcS) (H : Heap) (locs : List Loc), Inv t → va_P D vwCl (fwl adr 67 (fG adr cs t)) H → va_S (fun q => s.heap.size ≤ q) s.heap H locs → W p l e room_1 s m #[Value.ref b] below meth c H locs 67 10343 (lw_Z below #[Value.ref b] s) (F0 m 1207 ls [])) : W p l e room_1 s m #[Value.ref b] below meth c H locs 67 10343 (lw_Z below #[Value.ref b] s) (F0 m 555 ls []) := by
  have hx := X.1.1
  have hb := X.1.2.1
  have hX := X.2.2.2.2.2.2.1
  have hbl := X.2.2.2.2.2.2.2
  have hbA : ¬ (fun q : Nat => s.heap.size ≤ q) b := Nat.not_le.mpr hbl
  have h := hOK t (xs (x3 + 1).toNatClampNeg) (xs (x3 + 2).toNatClampNeg) (xs (x3 + 3).toNatClampNeg) ht
  refine lv_aload_n hx hb dL_law_555 rfl (lv_at hl 1 rfl) ?_
  refine lv_aload_n hx hb dL_law_556 rfl (lv_at hl 0 rfl) ?_
  refine lv_iload_n hx hb dL_law_557 rfl (lv_at hl 3 rfl) ?_
  refine lv_iconst (v := 1) hx hb dL_law_558 (by decide) ?_
  refine lv_iadd hx hb dL_law_559 ?_
  refine va_sld hx hb hX hbl hbA hS (fl_in (j := 1) ex3 rfl (by omega) hL) dL_law_560 ?_
  refine lv_aload_n hx hb dL_law_561 rfl (lv_at hl 0 rfl) ?_
  refine lv_iload_n hx hb dL_law_562 rfl (lv_at hl 3 rfl) ?_
  refine lv_iconst (v := 2) hx hb dL_law_563 (by decide) ?_
  refine lv_iadd hx hb dL_law_564 ?_
  refine va_sld hx hb hX hbl hbA hS (fl_in (j := 2) ex3 rfl (by omega) hL) dL_law_565 ?_
  refine lv_aload_n hx hb dL_law_566 rfl (lv_at hl 0 rfl) ?_
  refine lv_iload_n hx hb dL_law_567 rfl (lv_at hl 3 rfl) ?_
  refine lv_iconst (v := 3) hx hb dL_law_568 (by decide) ?_
  refine lv_iadd hx hb dL_law_569 ?_
  refine va_sld hx hb hX hbl hbA hS (fl_in (j := 3) ex3 rfl (by omega) hL) dL_law_570 ?_
  refine lr_ci X (lr_runV (n := 3) (rest := []) X (c_X4_curve l D adr cs (by decide) t (xs (x3 + 1).toNatClampNeg) (xs (x3 + 2).toNatClampNeg) (xs (x3 + 3).toNatClampNeg) _ h) hP hS (by decide) (fG_FC adr cs t) rfl (fgV0 mw_15_20 mw_15_21 mw_15_22 mw_1_2 mw_15_23) rfl rfl (by decide +kernel) ⟨Nat.le_of_ble_eq_true rfl, Nat.le_of_ble_eq_true rfl⟩ rfl hl.1 rfl (Nat.le_of_ble_eq_true rfl) dL_law_571 ⟨Nat.le_of_ble_eq_true rfl, Nat.le_of_ble_eq_true rfl⟩) hS (fun r t1 H locs h hP hS => ?_)
  refine lv_aload_n hx hb dL_law_574 rfl (lv_at hl 2 rfl) ?_
  refine lv_aload_n hx hb dL_law_575 rfl (lv_at hl 0 rfl) ?_
  refine lv_iload_n hx hb dL_law_576 rfl (lv_at hl 3 rfl) ?_
  refine lv_iconst (v := 1) hx hb dL_law_577 (by decide) ?_
  refine lv_iadd hx hb dL_law_578 ?_
  refine va_sld hx hb hX hbl hbA hS (fl_in (j := 1) ex3 rfl (by omega) hL) dL_law_579 ?_
  refine lv_aload_n hx hb dL_law_580 rfl (lv_at hl 0 rfl) ?_
  refine lv_iload_n hx hb dL_law_581 rfl (lv_at hl 3 rfl) ?_
  refine lv_iconst (v := 2) hx hb dL_law_582 (by decide) ?_
  refine lv_iadd hx hb dL_law_583 ?_
  refine va_sld hx hb hX hbl hbA hS (fl_in (j := 2) ex3 rfl (by omega) hL) dL_law_584 ?_
  refine lv_aload_n hx hb dL_law_585 rfl (lv_at hl 0 rfl) ?_
  refine lv_iload_n hx hb dL_law_586 rfl (lv_at hl 3 rfl) ?_
  refine lv_iconst (v := 3) hx hb dL_law_587 (by decide) ?_
  refine lv_iadd hx hb dL_law_588 ?_
  refine va_sld hx hb hX hbl hbA hS (fl_in (j := 3) ex3 rfl (by omega) hL) dL_law_589 ?_
  refine lr_ci X (lr_runV (n := 3) (rest := [.int r]) X (c_X5_curve l D adr cs (by decide) t1 (xs (x3 + 1).toNatClampNeg) (xs (x3 + 2).toNatClampNeg) (xs (x3 + 3).toNatClampNeg) _ h) hP hS (by decide) (fG_MO adr cs t1) rfl (fgV0 mw_17_21 mw_17_22 mw_17_23 mw_1_5 mw_18_0) rfl rfl (by decide +kernel) ⟨Nat.le_of_ble_eq_true rfl, Nat.le_of_ble_eq_true rfl⟩ rfl hl.1 rfl (Nat.le_of_ble_eq_true rfl) dL_law_590 ⟨Nat.le_of_ble_eq_true rfl, Nat.le_of_ble_eq_true rfl⟩) hS (fun r2 t2 H locs h hP hS => ?_)
  refine lv_icmp_eq (tgt := 1207) hx hb dL_law_593 (by decide) (fun _ => ?_) (fun c9 => absurd h.1 c9)
  exact kk t2 H locs h.2 hP hS

set_option maxHeartbeats 4000000 in
set_option maxRecDepth 100000 in
theorem lc_12 {D : va_G} {adr : Nat → Nat} {cs : Nat → ClassId} {p : Program} {l : Launch} {e : Env} {s : State} {m : MethodId} {below : List Frame} {meth : Method} {c : Code} {b L : Nat} {xs : Nat → Int32} (hL : L ≤ 2560) (X : fLx D adr cs p s m b L xs c) {Inv : fcS → Prop} (hOK : fOK_13 Inv) {i : Nat} (hi : i + 5 ≤ L) {x3 : Int32} (ex3 : x3 = nI i) {t : fcS} (ht : Inv t) {H : Heap} {locs : List Loc} {ls : Array Slot} (hP : va_P D vwCl (fwl adr 67 (fG adr cs t)) H) (hS : va_S (fun q => s.heap.size ≤ q) s.heap H locs) (hl : lv_has ls 4 [(0, .ref b), (1, .ref (adr 0)), (2, .ref (adr 53)), (3, .int x3)])
    (kk : ∀ (t : fcS) (H : Heap) (locs : List Loc), Inv t → va_P D vwCl (fwl adr 67 (fG adr cs t)) H → va_S (fun q => s.heap.size ≤ q) s.heap H locs → W p l e room_1 s m #[Value.ref b] below meth c H locs 67 10343 (lw_Z below #[Value.ref b] s) (F0 m 1207 ls [])) : W p l e room_1 s m #[Value.ref b] below meth c H locs 67 10343 (lw_Z below #[Value.ref b] s) (F0 m 598 ls []) := by
  have hx := X.1.1
  have hb := X.1.2.1
  have hX := X.2.2.2.2.2.2.1
  have hbl := X.2.2.2.2.2.2.2
  have hbA : ¬ (fun q : Nat => s.heap.size ≤ q) b := Nat.not_le.mpr hbl
  have h := hOK t ht
  refine lv_aload_n hx hb dL_law_598 rfl (lv_at hl 1 rfl) ?_
  refine lr_ci X (lr_runV (n := 0) (rest := []) X (c_X4_knot l D adr cs (by decide) t  _ h) hP hS (by decide) (fG_FC adr cs t) rfl (fgV0 mw_19_2 mw_19_3 mw_19_4 mw_1_2 mw_19_5) rfl rfl (by decide +kernel) ⟨Nat.le_of_ble_eq_true rfl, Nat.le_of_ble_eq_true rfl⟩ rfl hl.1 rfl (Nat.le_of_ble_eq_true rfl) dL_law_599 ⟨Nat.le_of_ble_eq_true rfl, Nat.le_of_ble_eq_true rfl⟩) hS (fun r t1 H locs h hP hS => ?_)
  refine lv_aload_n hx hb dL_law_602 rfl (lv_at hl 2 rfl) ?_
  refine lr_ci X (lr_runV (n := 0) (rest := [.int r]) X (c_X5_knot l D adr cs (by decide) t1  _ h) hP hS (by decide) (fG_MO adr cs t1) rfl (fgV0 mw_19_6 mw_19_7 mw_19_8 mw_1_5 mw_19_9) rfl rfl (by decide +kernel) ⟨Nat.le_of_ble_eq_true rfl, Nat.le_of_ble_eq_true rfl⟩ rfl hl.1 rfl (Nat.le_of_ble_eq_true rfl) dL_law_603 ⟨Nat.le_of_ble_eq_true rfl, Nat.le_of_ble_eq_true rfl⟩) hS (fun r2 t2 H locs h hP hS => ?_)
  refine lv_icmp_eq (tgt := 1207) hx hb dL_law_606 (by decide) (fun _ => ?_) (fun c9 => absurd h.1 c9)
  exact kk t2 H locs h.2 hP hS

set_option maxHeartbeats 4000000 in
set_option maxRecDepth 100000 in
theorem lc_13 {D : va_G} {adr : Nat → Nat} {cs : Nat → ClassId} {p : Program} {l : Launch} {e : Env} {s : State} {m : MethodId} {below : List Frame} {meth : Method} {c : Code} {b L : Nat} {xs : Nat → Int32} (hL : L ≤ 2560) (X : fLx D adr cs p s m b L xs c) {Inv : fcS → Prop} (hOK : fOK_14 Inv) {i : Nat} (hi : i + 5 ≤ L) {x3 : Int32} (ex3 : x3 = nI i) {t : fcS} (ht : Inv t) {H : Heap} {locs : List Loc} {ls : Array Slot} (hP : va_P D vwCl (fwl adr 67 (fG adr cs t)) H) (hS : va_S (fun q => s.heap.size ≤ q) s.heap H locs) (hl : lv_has ls 4 [(0, .ref b), (1, .ref (adr 0)), (2, .ref (adr 53)), (3, .int x3)])
    (kk : ∀ (t : fcS) (H : Heap) (locs : List Loc), Inv t → va_P D vwCl (fwl adr 67 (fG adr cs t)) H → va_S (fun q => s.heap.size ≤ q) s.heap H locs → W p l e room_1 s m #[Value.ref b] below meth c H locs 67 10343 (lw_Z below #[Value.ref b] s) (F0 m 1207 ls [])) : W p l e room_1 s m #[Value.ref b] below meth c H locs 67 10343 (lw_Z below #[Value.ref b] s) (F0 m 611 ls []) := by
  have hx := X.1.1
  have hb := X.1.2.1
  have hX := X.2.2.2.2.2.2.1
  have hbl := X.2.2.2.2.2.2.2
  have hbA : ¬ (fun q : Nat => s.heap.size ≤ q) b := Nat.not_le.mpr hbl
  have h := hOK t (xs (x3 + 1).toNatClampNeg) (xs (x3 + 2).toNatClampNeg) ht
  refine lv_aload_n hx hb dL_law_611 rfl (lv_at hl 1 rfl) ?_
  refine lv_aload_n hx hb dL_law_612 rfl (lv_at hl 0 rfl) ?_
  refine lv_iload_n hx hb dL_law_613 rfl (lv_at hl 3 rfl) ?_
  refine lv_iconst (v := 1) hx hb dL_law_614 (by decide) ?_
  refine lv_iadd hx hb dL_law_615 ?_
  refine va_sld hx hb hX hbl hbA hS (fl_in (j := 1) ex3 rfl (by omega) hL) dL_law_616 ?_
  refine lv_aload_n hx hb dL_law_617 rfl (lv_at hl 0 rfl) ?_
  refine lv_iload_n hx hb dL_law_618 rfl (lv_at hl 3 rfl) ?_
  refine lv_iconst (v := 2) hx hb dL_law_619 (by decide) ?_
  refine lv_iadd hx hb dL_law_620 ?_
  refine va_sld hx hb hX hbl hbA hS (fl_in (j := 2) ex3 rfl (by omega) hL) dL_law_621 ?_
  refine lr_ci X (lr_runV (n := 2) (rest := []) X (c_X4_about l D adr cs (by decide) t (xs (x3 + 1).toNatClampNeg) (xs (x3 + 2).toNatClampNeg) _ h) hP hS (by decide) (fG_FC adr cs t) rfl (fgV0 mw_19_10 mw_19_11 mw_19_12 mw_1_2 mw_19_13) rfl rfl (by decide +kernel) ⟨Nat.le_of_ble_eq_true rfl, Nat.le_of_ble_eq_true rfl⟩ rfl hl.1 rfl (Nat.le_of_ble_eq_true rfl) dL_law_622 ⟨Nat.le_of_ble_eq_true rfl, Nat.le_of_ble_eq_true rfl⟩) hS (fun r t1 H locs h hP hS => ?_)
  refine lv_aload_n hx hb dL_law_625 rfl (lv_at hl 2 rfl) ?_
  refine lv_aload_n hx hb dL_law_626 rfl (lv_at hl 0 rfl) ?_
  refine lv_iload_n hx hb dL_law_627 rfl (lv_at hl 3 rfl) ?_
  refine lv_iconst (v := 1) hx hb dL_law_628 (by decide) ?_
  refine lv_iadd hx hb dL_law_629 ?_
  refine va_sld hx hb hX hbl hbA hS (fl_in (j := 1) ex3 rfl (by omega) hL) dL_law_630 ?_
  refine lv_aload_n hx hb dL_law_631 rfl (lv_at hl 0 rfl) ?_
  refine lv_iload_n hx hb dL_law_632 rfl (lv_at hl 3 rfl) ?_
  refine lv_iconst (v := 2) hx hb dL_law_633 (by decide) ?_
  refine lv_iadd hx hb dL_law_634 ?_
  refine va_sld hx hb hX hbl hbA hS (fl_in (j := 2) ex3 rfl (by omega) hL) dL_law_635 ?_
  refine lr_ci X (lr_runV (n := 2) (rest := [.int r]) X (c_X5_about l D adr cs (by decide) t1 (xs (x3 + 1).toNatClampNeg) (xs (x3 + 2).toNatClampNeg) _ h) hP hS (by decide) (fG_MO adr cs t1) rfl (fgV0 mw_19_18 mw_19_19 mw_19_20 mw_1_5 mw_19_21) rfl rfl (by decide +kernel) ⟨Nat.le_of_ble_eq_true rfl, Nat.le_of_ble_eq_true rfl⟩ rfl hl.1 rfl (Nat.le_of_ble_eq_true rfl) dL_law_636 ⟨Nat.le_of_ble_eq_true rfl, Nat.le_of_ble_eq_true rfl⟩) hS (fun r2 t2 H locs h hP hS => ?_)
  refine lv_icmp_eq (tgt := 1207) hx hb dL_law_639 (by decide) (fun _ => ?_) (fun c9 => absurd h.1 c9)
  exact kk t2 H locs h.2 hP hS

set_option maxHeartbeats 4000000 in
set_option maxRecDepth 100000 in
theorem lc_14 {D : va_G} {adr : Nat → Nat} {cs : Nat → ClassId} {p : Program} {l : Launch} {e : Env} {s : State} {m : MethodId} {below : List Frame} {meth : Method} {c : Code} {b L : Nat} {xs : Nat → Int32} (hL : L ≤ 2560) (X : fLx D adr cs p s m b L xs c) {Inv : fcS → Prop} (hOK : fOK_15 Inv) {i : Nat} (hi : i + 5 ≤ L) {x3 : Int32} (ex3 : x3 = nI i) {t : fcS} (ht : Inv t) {H : Heap} {locs : List Loc} {ls : Array Slot} (hP : va_P D vwCl (fwl adr 67 (fG adr cs t)) H) (hS : va_S (fun q => s.heap.size ≤ q) s.heap H locs) (hl : lv_has ls 4 [(0, .ref b), (1, .ref (adr 0)), (2, .ref (adr 53)), (3, .int x3)])
    (kk : ∀ (t : fcS) (H : Heap) (locs : List Loc), Inv t → va_P D vwCl (fwl adr 67 (fG adr cs t)) H → va_S (fun q => s.heap.size ≤ q) s.heap H locs → W p l e room_1 s m #[Value.ref b] below meth c H locs 67 10343 (lw_Z below #[Value.ref b] s) (F0 m 1207 ls [])) : W p l e room_1 s m #[Value.ref b] below meth c H locs 67 10343 (lw_Z below #[Value.ref b] s) (F0 m 644 ls []) := by
  have hx := X.1.1
  have hb := X.1.2.1
  have hX := X.2.2.2.2.2.2.1
  have hbl := X.2.2.2.2.2.2.2
  have hbA : ¬ (fun q : Nat => s.heap.size ≤ q) b := Nat.not_le.mpr hbl
  have h := hOK t (xs (x3 + 1).toNatClampNeg) (xs (x3 + 2).toNatClampNeg) (xs (x3 + 3).toNatClampNeg) ht
  refine lv_aload_n hx hb dL_law_644 rfl (lv_at hl 1 rfl) ?_
  refine lv_aload_n hx hb dL_law_645 rfl (lv_at hl 0 rfl) ?_
  refine lv_iload_n hx hb dL_law_646 rfl (lv_at hl 3 rfl) ?_
  refine lv_iconst (v := 1) hx hb dL_law_647 (by decide) ?_
  refine lv_iadd hx hb dL_law_648 ?_
  refine va_sld hx hb hX hbl hbA hS (fl_in (j := 1) ex3 rfl (by omega) hL) dL_law_649 ?_
  refine lv_aload_n hx hb dL_law_650 rfl (lv_at hl 0 rfl) ?_
  refine lv_iload_n hx hb dL_law_651 rfl (lv_at hl 3 rfl) ?_
  refine lv_iconst (v := 2) hx hb dL_law_652 (by decide) ?_
  refine lv_iadd hx hb dL_law_653 ?_
  refine va_sld hx hb hX hbl hbA hS (fl_in (j := 2) ex3 rfl (by omega) hL) dL_law_654 ?_
  refine lv_aload_n hx hb dL_law_655 rfl (lv_at hl 0 rfl) ?_
  refine lv_iload_n hx hb dL_law_656 rfl (lv_at hl 3 rfl) ?_
  refine lv_iconst (v := 3) hx hb dL_law_657 (by decide) ?_
  refine lv_iadd hx hb dL_law_658 ?_
  refine va_sld hx hb hX hbl hbA hS (fl_in (j := 3) ex3 rfl (by omega) hL) dL_law_659 ?_
  refine lr_ci X (lr_runV (n := 3) (rest := []) X (c_X4_value l D adr cs (by decide) t (xs (x3 + 1).toNatClampNeg) (xs (x3 + 2).toNatClampNeg) (xs (x3 + 3).toNatClampNeg) _ h) hP hS (by decide) (fG_FC adr cs t) rfl (fgV0 mw_20_15 mw_20_16 mw_20_17 mw_1_2 mw_20_18) rfl rfl (by decide +kernel) ⟨Nat.le_of_ble_eq_true rfl, Nat.le_of_ble_eq_true rfl⟩ rfl hl.1 rfl (Nat.le_of_ble_eq_true rfl) dL_law_660 ⟨Nat.le_of_ble_eq_true rfl, Nat.le_of_ble_eq_true rfl⟩) hS (fun r t1 H locs h hP hS => ?_)
  refine lv_aload_n hx hb dL_law_663 rfl (lv_at hl 2 rfl) ?_
  refine lv_aload_n hx hb dL_law_664 rfl (lv_at hl 0 rfl) ?_
  refine lv_iload_n hx hb dL_law_665 rfl (lv_at hl 3 rfl) ?_
  refine lv_iconst (v := 1) hx hb dL_law_666 (by decide) ?_
  refine lv_iadd hx hb dL_law_667 ?_
  refine va_sld hx hb hX hbl hbA hS (fl_in (j := 1) ex3 rfl (by omega) hL) dL_law_668 ?_
  refine lv_aload_n hx hb dL_law_669 rfl (lv_at hl 0 rfl) ?_
  refine lv_iload_n hx hb dL_law_670 rfl (lv_at hl 3 rfl) ?_
  refine lv_iconst (v := 2) hx hb dL_law_671 (by decide) ?_
  refine lv_iadd hx hb dL_law_672 ?_
  refine va_sld hx hb hX hbl hbA hS (fl_in (j := 2) ex3 rfl (by omega) hL) dL_law_673 ?_
  refine lv_aload_n hx hb dL_law_674 rfl (lv_at hl 0 rfl) ?_
  refine lv_iload_n hx hb dL_law_675 rfl (lv_at hl 3 rfl) ?_
  refine lv_iconst (v := 3) hx hb dL_law_676 (by decide) ?_
  refine lv_iadd hx hb dL_law_677 ?_
  refine va_sld hx hb hX hbl hbA hS (fl_in (j := 3) ex3 rfl (by omega) hL) dL_law_678 ?_
  refine lr_ci X (lr_runV (n := 3) (rest := [.int r]) X (c_X5_value l D adr cs (by decide) t1 (xs (x3 + 1).toNatClampNeg) (xs (x3 + 2).toNatClampNeg) (xs (x3 + 3).toNatClampNeg) _ h) hP hS (by decide) (fG_MO adr cs t1) rfl (fgV0 mw_21_5 mw_21_6 mw_21_7 mw_1_5 mw_21_8) rfl rfl (by decide +kernel) ⟨Nat.le_of_ble_eq_true rfl, Nat.le_of_ble_eq_true rfl⟩ rfl hl.1 rfl (Nat.le_of_ble_eq_true rfl) dL_law_679 ⟨Nat.le_of_ble_eq_true rfl, Nat.le_of_ble_eq_true rfl⟩) hS (fun r2 t2 H locs h hP hS => ?_)
  refine lv_icmp_eq (tgt := 1207) hx hb dL_law_682 (by decide) (fun _ => ?_) (fun c9 => absurd h.1 c9)
  exact kk t2 H locs h.2 hP hS

set_option maxHeartbeats 4000000 in
set_option maxRecDepth 100000 in
theorem lc_15 {D : va_G} {adr : Nat → Nat} {cs : Nat → ClassId} {p : Program} {l : Launch} {e : Env} {s : State} {m : MethodId} {below : List Frame} {meth : Method} {c : Code} {b L : Nat} {xs : Nat → Int32} (hL : L ≤ 2560) (X : fLx D adr cs p s m b L xs c) {Inv : fcS → Prop} (hOK : fOK_16 Inv) {i : Nat} (hi : i + 5 ≤ L) {x3 : Int32} (ex3 : x3 = nI i) {t : fcS} (ht : Inv t) {H : Heap} {locs : List Loc} {ls : Array Slot} (hP : va_P D vwCl (fwl adr 67 (fG adr cs t)) H) (hS : va_S (fun q => s.heap.size ≤ q) s.heap H locs) (hl : lv_has ls 4 [(0, .ref b), (1, .ref (adr 0)), (2, .ref (adr 53)), (3, .int x3)])
    (kk : ∀ (t : fcS) (H : Heap) (locs : List Loc), Inv t → va_P D vwCl (fwl adr 67 (fG adr cs t)) H → va_S (fun q => s.heap.size ≤ q) s.heap H locs → W p l e room_1 s m #[Value.ref b] below meth c H locs 67 10343 (lw_Z below #[Value.ref b] s) (F0 m 1207 ls [])) : W p l e room_1 s m #[Value.ref b] below meth c H locs 67 10343 (lw_Z below #[Value.ref b] s) (F0 m 687 ls []) := by
  have hx := X.1.1
  have hb := X.1.2.1
  have hX := X.2.2.2.2.2.2.1
  have hbl := X.2.2.2.2.2.2.2
  have hbA : ¬ (fun q : Nat => s.heap.size ≤ q) b := Nat.not_le.mpr hbl
  have h := hOK t (xs (x3 + 1).toNatClampNeg) (xs (x3 + 2).toNatClampNeg) ht
  refine lv_aload_n hx hb dL_law_687 rfl (lv_at hl 1 rfl) ?_
  refine lv_aload_n hx hb dL_law_688 rfl (lv_at hl 0 rfl) ?_
  refine lv_iload_n hx hb dL_law_689 rfl (lv_at hl 3 rfl) ?_
  refine lv_iconst (v := 1) hx hb dL_law_690 (by decide) ?_
  refine lv_iadd hx hb dL_law_691 ?_
  refine va_sld hx hb hX hbl hbA hS (fl_in (j := 1) ex3 rfl (by omega) hL) dL_law_692 ?_
  refine lv_aload_n hx hb dL_law_693 rfl (lv_at hl 0 rfl) ?_
  refine lv_iload_n hx hb dL_law_694 rfl (lv_at hl 3 rfl) ?_
  refine lv_iconst (v := 2) hx hb dL_law_695 (by decide) ?_
  refine lv_iadd hx hb dL_law_696 ?_
  refine va_sld hx hb hX hbl hbA hS (fl_in (j := 2) ex3 rfl (by omega) hL) dL_law_697 ?_
  refine lr_ci X (lr_runV (n := 2) (rest := []) X (c_X4_count l D adr cs (by decide) t (xs (x3 + 1).toNatClampNeg) (xs (x3 + 2).toNatClampNeg) _ h) hP hS (by decide) (fG_FC adr cs t) rfl (fgV0 mw_21_16 mw_21_17 mw_21_18 mw_1_2 mw_21_19) rfl rfl (by decide +kernel) ⟨Nat.le_of_ble_eq_true rfl, Nat.le_of_ble_eq_true rfl⟩ rfl hl.1 rfl (Nat.le_of_ble_eq_true rfl) dL_law_698 ⟨Nat.le_of_ble_eq_true rfl, Nat.le_of_ble_eq_true rfl⟩) hS (fun r t1 H locs h hP hS => ?_)
  refine lv_aload_n hx hb dL_law_701 rfl (lv_at hl 2 rfl) ?_
  refine lv_aload_n hx hb dL_law_702 rfl (lv_at hl 0 rfl) ?_
  refine lv_iload_n hx hb dL_law_703 rfl (lv_at hl 3 rfl) ?_
  refine lv_iconst (v := 1) hx hb dL_law_704 (by decide) ?_
  refine lv_iadd hx hb dL_law_705 ?_
  refine va_sld hx hb hX hbl hbA hS (fl_in (j := 1) ex3 rfl (by omega) hL) dL_law_706 ?_
  refine lv_aload_n hx hb dL_law_707 rfl (lv_at hl 0 rfl) ?_
  refine lv_iload_n hx hb dL_law_708 rfl (lv_at hl 3 rfl) ?_
  refine lv_iconst (v := 2) hx hb dL_law_709 (by decide) ?_
  refine lv_iadd hx hb dL_law_710 ?_
  refine va_sld hx hb hX hbl hbA hS (fl_in (j := 2) ex3 rfl (by omega) hL) dL_law_711 ?_
  refine lr_ci X (lr_runV (n := 2) (rest := [.int r]) X (c_X5_count l D adr cs (by decide) t1 (xs (x3 + 1).toNatClampNeg) (xs (x3 + 2).toNatClampNeg) _ h) hP hS (by decide) (fG_MO adr cs t1) rfl (fgV0 mw_22_11 mw_22_12 mw_22_13 mw_1_5 mw_22_14) rfl rfl (by decide +kernel) ⟨Nat.le_of_ble_eq_true rfl, Nat.le_of_ble_eq_true rfl⟩ rfl hl.1 rfl (Nat.le_of_ble_eq_true rfl) dL_law_712 ⟨Nat.le_of_ble_eq_true rfl, Nat.le_of_ble_eq_true rfl⟩) hS (fun r2 t2 H locs h hP hS => ?_)
  refine lv_icmp_eq (tgt := 1207) hx hb dL_law_715 (by decide) (fun _ => ?_) (fun c9 => absurd h.1 c9)
  exact kk t2 H locs h.2 hP hS

set_option maxHeartbeats 4000000 in
set_option maxRecDepth 100000 in
theorem lc_16 {D : va_G} {adr : Nat → Nat} {cs : Nat → ClassId} {p : Program} {l : Launch} {e : Env} {s : State} {m : MethodId} {below : List Frame} {meth : Method} {c : Code} {b L : Nat} {xs : Nat → Int32} (hL : L ≤ 2560) (X : fLx D adr cs p s m b L xs c) {Inv : fcS → Prop} (hOK : fOK_17 Inv) {i : Nat} (hi : i + 5 ≤ L) {x3 : Int32} (ex3 : x3 = nI i) {t : fcS} (ht : Inv t) {H : Heap} {locs : List Loc} {ls : Array Slot} (hP : va_P D vwCl (fwl adr 67 (fG adr cs t)) H) (hS : va_S (fun q => s.heap.size ≤ q) s.heap H locs) (hl : lv_has ls 4 [(0, .ref b), (1, .ref (adr 0)), (2, .ref (adr 53)), (3, .int x3)])
    (kk : ∀ (t : fcS) (H : Heap) (locs : List Loc), Inv t → va_P D vwCl (fwl adr 67 (fG adr cs t)) H → va_S (fun q => s.heap.size ≤ q) s.heap H locs → W p l e room_1 s m #[Value.ref b] below meth c H locs 67 10343 (lw_Z below #[Value.ref b] s) (F0 m 1207 ls [])) : W p l e room_1 s m #[Value.ref b] below meth c H locs 67 10343 (lw_Z below #[Value.ref b] s) (F0 m 720 ls []) := by
  have hx := X.1.1
  have hb := X.1.2.1
  have hX := X.2.2.2.2.2.2.1
  have hbl := X.2.2.2.2.2.2.2
  have hbA : ¬ (fun q : Nat => s.heap.size ≤ q) b := Nat.not_le.mpr hbl
  have h := hOK t (xs (x3 + 1).toNatClampNeg) (xs (x3 + 2).toNatClampNeg) ht
  refine lv_aload_n hx hb dL_law_720 rfl (lv_at hl 1 rfl) ?_
  refine lv_aload_n hx hb dL_law_721 rfl (lv_at hl 0 rfl) ?_
  refine lv_iload_n hx hb dL_law_722 rfl (lv_at hl 3 rfl) ?_
  refine lv_iconst (v := 1) hx hb dL_law_723 (by decide) ?_
  refine lv_iadd hx hb dL_law_724 ?_
  refine va_sld hx hb hX hbl hbA hS (fl_in (j := 1) ex3 rfl (by omega) hL) dL_law_725 ?_
  refine lv_aload_n hx hb dL_law_726 rfl (lv_at hl 0 rfl) ?_
  refine lv_iload_n hx hb dL_law_727 rfl (lv_at hl 3 rfl) ?_
  refine lv_iconst (v := 2) hx hb dL_law_728 (by decide) ?_
  refine lv_iadd hx hb dL_law_729 ?_
  refine va_sld hx hb hX hbl hbA hS (fl_in (j := 2) ex3 rfl (by omega) hL) dL_law_730 ?_
  refine lr_ci X (lr_runV (n := 2) (rest := []) X (c_X4_beyond l D adr cs (by decide) t (xs (x3 + 1).toNatClampNeg) (xs (x3 + 2).toNatClampNeg) _ h) hP hS (by decide) (fG_FC adr cs t) rfl (fgV0 mw_22_23 mw_23_0 mw_23_1 mw_1_2 mw_23_2) rfl rfl (by decide +kernel) ⟨Nat.le_of_ble_eq_true rfl, Nat.le_of_ble_eq_true rfl⟩ rfl hl.1 rfl (Nat.le_of_ble_eq_true rfl) dL_law_731 ⟨Nat.le_of_ble_eq_true rfl, Nat.le_of_ble_eq_true rfl⟩) hS (fun r t1 H locs h hP hS => ?_)
  refine lv_aload_n hx hb dL_law_734 rfl (lv_at hl 2 rfl) ?_
  refine lv_aload_n hx hb dL_law_735 rfl (lv_at hl 0 rfl) ?_
  refine lv_iload_n hx hb dL_law_736 rfl (lv_at hl 3 rfl) ?_
  refine lv_iconst (v := 1) hx hb dL_law_737 (by decide) ?_
  refine lv_iadd hx hb dL_law_738 ?_
  refine va_sld hx hb hX hbl hbA hS (fl_in (j := 1) ex3 rfl (by omega) hL) dL_law_739 ?_
  refine lv_aload_n hx hb dL_law_740 rfl (lv_at hl 0 rfl) ?_
  refine lv_iload_n hx hb dL_law_741 rfl (lv_at hl 3 rfl) ?_
  refine lv_iconst (v := 2) hx hb dL_law_742 (by decide) ?_
  refine lv_iadd hx hb dL_law_743 ?_
  refine va_sld hx hb hX hbl hbA hS (fl_in (j := 2) ex3 rfl (by omega) hL) dL_law_744 ?_
  refine lr_ci X (lr_runV (n := 2) (rest := [.int r]) X (c_X5_beyond l D adr cs (by decide) t1 (xs (x3 + 1).toNatClampNeg) (xs (x3 + 2).toNatClampNeg) _ h) hP hS (by decide) (fG_MO adr cs t1) rfl (fgV0 mw_23_4 mw_23_5 mw_23_6 mw_1_5 mw_23_7) rfl rfl (by decide +kernel) ⟨Nat.le_of_ble_eq_true rfl, Nat.le_of_ble_eq_true rfl⟩ rfl hl.1 rfl (Nat.le_of_ble_eq_true rfl) dL_law_745 ⟨Nat.le_of_ble_eq_true rfl, Nat.le_of_ble_eq_true rfl⟩) hS (fun r2 t2 H locs h hP hS => ?_)
  refine lv_icmp_eq (tgt := 1207) hx hb dL_law_748 (by decide) (fun _ => ?_) (fun c9 => absurd h.1 c9)
  exact kk t2 H locs h.2 hP hS

set_option maxHeartbeats 4000000 in
set_option maxRecDepth 100000 in
theorem lc_17 {D : va_G} {adr : Nat → Nat} {cs : Nat → ClassId} {p : Program} {l : Launch} {e : Env} {s : State} {m : MethodId} {below : List Frame} {meth : Method} {c : Code} {b L : Nat} {xs : Nat → Int32} (hL : L ≤ 2560) (X : fLx D adr cs p s m b L xs c) {Inv : fcS → Prop} (hOK : fOK_18 Inv) {i : Nat} (hi : i + 5 ≤ L) {x3 : Int32} (ex3 : x3 = nI i) {t : fcS} (ht : Inv t) {H : Heap} {locs : List Loc} {ls : Array Slot} (hP : va_P D vwCl (fwl adr 67 (fG adr cs t)) H) (hS : va_S (fun q => s.heap.size ≤ q) s.heap H locs) (hl : lv_has ls 4 [(0, .ref b), (1, .ref (adr 0)), (2, .ref (adr 53)), (3, .int x3)])
    (kk : ∀ (t : fcS) (H : Heap) (locs : List Loc), Inv t → va_P D vwCl (fwl adr 67 (fG adr cs t)) H → va_S (fun q => s.heap.size ≤ q) s.heap H locs → W p l e room_1 s m #[Value.ref b] below meth c H locs 67 10343 (lw_Z below #[Value.ref b] s) (F0 m 1207 ls [])) : W p l e room_1 s m #[Value.ref b] below meth c H locs 67 10343 (lw_Z below #[Value.ref b] s) (F0 m 753 ls []) := by
  have hx := X.1.1
  have hb := X.1.2.1
  have hX := X.2.2.2.2.2.2.1
  have hbl := X.2.2.2.2.2.2.2
  have hbA : ¬ (fun q : Nat => s.heap.size ≤ q) b := Nat.not_le.mpr hbl
  have h := hOK t (xs (x3 + 1).toNatClampNeg) (xs (x3 + 2).toNatClampNeg) ht
  refine lv_aload_n hx hb dL_law_753 rfl (lv_at hl 1 rfl) ?_
  refine lv_aload_n hx hb dL_law_754 rfl (lv_at hl 0 rfl) ?_
  refine lv_iload_n hx hb dL_law_755 rfl (lv_at hl 3 rfl) ?_
  refine lv_iconst (v := 1) hx hb dL_law_756 (by decide) ?_
  refine lv_iadd hx hb dL_law_757 ?_
  refine va_sld hx hb hX hbl hbA hS (fl_in (j := 1) ex3 rfl (by omega) hL) dL_law_758 ?_
  refine lv_aload_n hx hb dL_law_759 rfl (lv_at hl 0 rfl) ?_
  refine lv_iload_n hx hb dL_law_760 rfl (lv_at hl 3 rfl) ?_
  refine lv_iconst (v := 2) hx hb dL_law_761 (by decide) ?_
  refine lv_iadd hx hb dL_law_762 ?_
  refine va_sld hx hb hX hbl hbA hS (fl_in (j := 2) ex3 rfl (by omega) hL) dL_law_763 ?_
  refine lr_ci X (lr_runV (n := 2) (rest := []) X (c_X4_share l D adr cs (by decide) t (xs (x3 + 1).toNatClampNeg) (xs (x3 + 2).toNatClampNeg) _ h) hP hS (by decide) (fG_FC adr cs t) rfl (fgV0 mw_23_8 mw_23_9 mw_23_10 mw_1_2 mw_23_11) rfl rfl (by decide +kernel) ⟨Nat.le_of_ble_eq_true rfl, Nat.le_of_ble_eq_true rfl⟩ rfl hl.1 rfl (Nat.le_of_ble_eq_true rfl) dL_law_764 ⟨Nat.le_of_ble_eq_true rfl, Nat.le_of_ble_eq_true rfl⟩) hS (fun r t1 H locs h hP hS => ?_)
  refine lv_aload_n hx hb dL_law_767 rfl (lv_at hl 2 rfl) ?_
  refine lv_aload_n hx hb dL_law_768 rfl (lv_at hl 0 rfl) ?_
  refine lv_iload_n hx hb dL_law_769 rfl (lv_at hl 3 rfl) ?_
  refine lv_iconst (v := 1) hx hb dL_law_770 (by decide) ?_
  refine lv_iadd hx hb dL_law_771 ?_
  refine va_sld hx hb hX hbl hbA hS (fl_in (j := 1) ex3 rfl (by omega) hL) dL_law_772 ?_
  refine lv_aload_n hx hb dL_law_773 rfl (lv_at hl 0 rfl) ?_
  refine lv_iload_n hx hb dL_law_774 rfl (lv_at hl 3 rfl) ?_
  refine lv_iconst (v := 2) hx hb dL_law_775 (by decide) ?_
  refine lv_iadd hx hb dL_law_776 ?_
  refine va_sld hx hb hX hbl hbA hS (fl_in (j := 2) ex3 rfl (by omega) hL) dL_law_777 ?_
  refine lr_ci X (lr_runV (n := 2) (rest := [.int r]) X (c_X5_share l D adr cs (by decide) t1 (xs (x3 + 1).toNatClampNeg) (xs (x3 + 2).toNatClampNeg) _ h) hP hS (by decide) (fG_MO adr cs t1) rfl (fgV0 mw_23_23 mw_24_0 mw_24_1 mw_1_5 mw_24_2) rfl rfl (by decide +kernel) ⟨Nat.le_of_ble_eq_true rfl, Nat.le_of_ble_eq_true rfl⟩ rfl hl.1 rfl (Nat.le_of_ble_eq_true rfl) dL_law_778 ⟨Nat.le_of_ble_eq_true rfl, Nat.le_of_ble_eq_true rfl⟩) hS (fun r2 t2 H locs h hP hS => ?_)
  refine lv_icmp_eq (tgt := 1207) hx hb dL_law_781 (by decide) (fun _ => ?_) (fun c9 => absurd h.1 c9)
  exact kk t2 H locs h.2 hP hS

set_option maxHeartbeats 4000000 in
set_option maxRecDepth 100000 in
theorem lc_18 {D : va_G} {adr : Nat → Nat} {cs : Nat → ClassId} {p : Program} {l : Launch} {e : Env} {s : State} {m : MethodId} {below : List Frame} {meth : Method} {c : Code} {b L : Nat} {xs : Nat → Int32} (hL : L ≤ 2560) (X : fLx D adr cs p s m b L xs c) {Inv : fcS → Prop} (hOK : fOK_19 Inv) {i : Nat} (hi : i + 5 ≤ L) {x3 : Int32} (ex3 : x3 = nI i) {t : fcS} (ht : Inv t) {H : Heap} {locs : List Loc} {ls : Array Slot} (hP : va_P D vwCl (fwl adr 67 (fG adr cs t)) H) (hS : va_S (fun q => s.heap.size ≤ q) s.heap H locs) (hl : lv_has ls 4 [(0, .ref b), (1, .ref (adr 0)), (2, .ref (adr 53)), (3, .int x3)])
    (kk : ∀ (t : fcS) (H : Heap) (locs : List Loc), Inv t → va_P D vwCl (fwl adr 67 (fG adr cs t)) H → va_S (fun q => s.heap.size ≤ q) s.heap H locs → W p l e room_1 s m #[Value.ref b] below meth c H locs 67 10343 (lw_Z below #[Value.ref b] s) (F0 m 1207 ls [])) : W p l e room_1 s m #[Value.ref b] below meth c H locs 67 10343 (lw_Z below #[Value.ref b] s) (F0 m 786 ls []) := by
  have hx := X.1.1
  have hb := X.1.2.1
  have hX := X.2.2.2.2.2.2.1
  have hbl := X.2.2.2.2.2.2.2
  have hbA : ¬ (fun q : Nat => s.heap.size ≤ q) b := Nat.not_le.mpr hbl
  have h := hOK t (xs (x3 + 1).toNatClampNeg) (xs (x3 + 2).toNatClampNeg) ht
  refine lv_aload_n hx hb dL_law_786 rfl (lv_at hl 1 rfl) ?_
  refine lv_aload_n hx hb dL_law_787 rfl (lv_at hl 0 rfl) ?_
  refine lv_iload_n hx hb dL_law_788 rfl (lv_at hl 3 rfl) ?_
  refine lv_iconst (v := 1) hx hb dL_law_789 (by decide) ?_
  refine lv_iadd hx hb dL_law_790 ?_
  refine va_sld hx hb hX hbl hbA hS (fl_in (j := 1) ex3 rfl (by omega) hL) dL_law_791 ?_
  refine lv_aload_n hx hb dL_law_792 rfl (lv_at hl 0 rfl) ?_
  refine lv_iload_n hx hb dL_law_793 rfl (lv_at hl 3 rfl) ?_
  refine lv_iconst (v := 2) hx hb dL_law_794 (by decide) ?_
  refine lv_iadd hx hb dL_law_795 ?_
  refine va_sld hx hb hX hbl hbA hS (fl_in (j := 2) ex3 rfl (by omega) hL) dL_law_796 ?_
  refine lr_cl X (lr_runV (n := 2) (rest := []) X (c_X4_further l D adr cs (by decide) t (xs (x3 + 1).toNatClampNeg) (xs (x3 + 2).toNatClampNeg) _ h) hP hS (by decide) (fG_FC adr cs t) rfl (fgV0 mw_24_7 mw_24_8 mw_24_9 mw_1_2 mw_24_10) rfl rfl (by decide +kernel) ⟨Nat.le_of_ble_eq_true rfl, Nat.le_of_ble_eq_true rfl⟩ rfl hl.1 rfl (Nat.le_of_ble_eq_true rfl) dL_law_797 ⟨Nat.le_of_ble_eq_true rfl, Nat.le_of_ble_eq_true rfl⟩) hS (fun r t1 H locs h hP hS => ?_)
  refine lv_aload_n hx hb dL_law_800 rfl (lv_at hl 2 rfl) ?_
  refine lv_aload_n hx hb dL_law_801 rfl (lv_at hl 0 rfl) ?_
  refine lv_iload_n hx hb dL_law_802 rfl (lv_at hl 3 rfl) ?_
  refine lv_iconst (v := 1) hx hb dL_law_803 (by decide) ?_
  refine lv_iadd hx hb dL_law_804 ?_
  refine va_sld hx hb hX hbl hbA hS (fl_in (j := 1) ex3 rfl (by omega) hL) dL_law_805 ?_
  refine lv_aload_n hx hb dL_law_806 rfl (lv_at hl 0 rfl) ?_
  refine lv_iload_n hx hb dL_law_807 rfl (lv_at hl 3 rfl) ?_
  refine lv_iconst (v := 2) hx hb dL_law_808 (by decide) ?_
  refine lv_iadd hx hb dL_law_809 ?_
  refine va_sld hx hb hX hbl hbA hS (fl_in (j := 2) ex3 rfl (by omega) hL) dL_law_810 ?_
  refine lr_cl X (lr_runV (n := 2) (rest := [.long r]) X (c_X5_further l D adr cs (by decide) t1 (xs (x3 + 1).toNatClampNeg) (xs (x3 + 2).toNatClampNeg) _ h) hP hS (by decide) (fG_MO adr cs t1) rfl (fgV0 mw_24_12 mw_24_13 mw_24_14 mw_1_5 mw_24_15) rfl rfl (by decide +kernel) ⟨Nat.le_of_ble_eq_true rfl, Nat.le_of_ble_eq_true rfl⟩ rfl hl.1 rfl (Nat.le_of_ble_eq_true rfl) dL_law_811 ⟨Nat.le_of_ble_eq_true rfl, Nat.le_of_ble_eq_true rfl⟩) hS (fun r2 t2 H locs h hP hS => ?_)
  refine W.lcmp hx hb dL_law_814 ?_
  refine lv_if_eq (tgt := 1207) hx hb dL_law_815 (by decide) (fun _ => ?_) (fun c9 => absurd ((lg_cmp_eq _ _).mpr h.1) c9)
  exact kk t2 H locs h.2 hP hS

set_option maxHeartbeats 4000000 in
set_option maxRecDepth 100000 in
theorem lc_19 {D : va_G} {adr : Nat → Nat} {cs : Nat → ClassId} {p : Program} {l : Launch} {e : Env} {s : State} {m : MethodId} {below : List Frame} {meth : Method} {c : Code} {b L : Nat} {xs : Nat → Int32} (hL : L ≤ 2560) (X : fLx D adr cs p s m b L xs c) {Inv : fcS → Prop} (hOK : fOK_20 Inv) {i : Nat} (hi : i + 5 ≤ L) {x3 : Int32} (ex3 : x3 = nI i) {t : fcS} (ht : Inv t) {H : Heap} {locs : List Loc} {ls : Array Slot} (hP : va_P D vwCl (fwl adr 67 (fG adr cs t)) H) (hS : va_S (fun q => s.heap.size ≤ q) s.heap H locs) (hl : lv_has ls 4 [(0, .ref b), (1, .ref (adr 0)), (2, .ref (adr 53)), (3, .int x3)])
    (kk : ∀ (t : fcS) (H : Heap) (locs : List Loc), Inv t → va_P D vwCl (fwl adr 67 (fG adr cs t)) H → va_S (fun q => s.heap.size ≤ q) s.heap H locs → W p l e room_1 s m #[Value.ref b] below meth c H locs 67 10343 (lw_Z below #[Value.ref b] s) (F0 m 1207 ls [])) : W p l e room_1 s m #[Value.ref b] below meth c H locs 67 10343 (lw_Z below #[Value.ref b] s) (F0 m 820 ls []) := by
  have hx := X.1.1
  have hb := X.1.2.1
  have hX := X.2.2.2.2.2.2.1
  have hbl := X.2.2.2.2.2.2.2
  have hbA : ¬ (fun q : Nat => s.heap.size ≤ q) b := Nat.not_le.mpr hbl
  have h := hOK t (xs (x3 + 1).toNatClampNeg) ht
  refine lv_aload_n hx hb dL_law_820 rfl (lv_at hl 1 rfl) ?_
  refine lv_aload_n hx hb dL_law_821 rfl (lv_at hl 0 rfl) ?_
  refine lv_iload_n hx hb dL_law_822 rfl (lv_at hl 3 rfl) ?_
  refine lv_iconst (v := 1) hx hb dL_law_823 (by decide) ?_
  refine lv_iadd hx hb dL_law_824 ?_
  refine va_sld hx hb hX hbl hbA hS (fl_in (j := 1) ex3 rfl (by omega) hL) dL_law_825 ?_
  refine lr_ci X (lr_runV (n := 1) (rest := []) X (c_X4_whole l D adr cs (by decide) t (xs (x3 + 1).toNatClampNeg) _ h) hP hS (by decide) (fG_FC adr cs t) rfl (fgV0 mw_24_18 mw_24_19 mw_24_20 mw_1_2 mw_24_21) rfl rfl (by decide +kernel) ⟨Nat.le_of_ble_eq_true rfl, Nat.le_of_ble_eq_true rfl⟩ rfl hl.1 rfl (Nat.le_of_ble_eq_true rfl) dL_law_826 ⟨Nat.le_of_ble_eq_true rfl, Nat.le_of_ble_eq_true rfl⟩) hS (fun r t1 H locs h hP hS => ?_)
  refine lv_aload_n hx hb dL_law_829 rfl (lv_at hl 2 rfl) ?_
  refine lv_aload_n hx hb dL_law_830 rfl (lv_at hl 0 rfl) ?_
  refine lv_iload_n hx hb dL_law_831 rfl (lv_at hl 3 rfl) ?_
  refine lv_iconst (v := 1) hx hb dL_law_832 (by decide) ?_
  refine lv_iadd hx hb dL_law_833 ?_
  refine va_sld hx hb hX hbl hbA hS (fl_in (j := 1) ex3 rfl (by omega) hL) dL_law_834 ?_
  refine lr_ci X (lr_runV (n := 1) (rest := [.int r]) X (c_X5_whole l D adr cs (by decide) t1 (xs (x3 + 1).toNatClampNeg) _ h) hP hS (by decide) (fG_MO adr cs t1) rfl (fgV0 mw_24_22 mw_24_23 mw_25_0 mw_1_5 mw_25_1) rfl rfl (by decide +kernel) ⟨Nat.le_of_ble_eq_true rfl, Nat.le_of_ble_eq_true rfl⟩ rfl hl.1 rfl (Nat.le_of_ble_eq_true rfl) dL_law_835 ⟨Nat.le_of_ble_eq_true rfl, Nat.le_of_ble_eq_true rfl⟩) hS (fun r2 t2 H locs h hP hS => ?_)
  refine lv_icmp_eq (tgt := 1207) hx hb dL_law_838 (by decide) (fun _ => ?_) (fun c9 => absurd h.1 c9)
  exact kk t2 H locs h.2 hP hS

set_option maxHeartbeats 4000000 in
set_option maxRecDepth 100000 in
theorem lc_20 {D : va_G} {adr : Nat → Nat} {cs : Nat → ClassId} {p : Program} {l : Launch} {e : Env} {s : State} {m : MethodId} {below : List Frame} {meth : Method} {c : Code} {b L : Nat} {xs : Nat → Int32} (hL : L ≤ 2560) (X : fLx D adr cs p s m b L xs c) {Inv : fcS → Prop} (hOK : fOK_21 Inv) {i : Nat} (hi : i + 5 ≤ L) {x3 : Int32} (ex3 : x3 = nI i) {t : fcS} (ht : Inv t) {H : Heap} {locs : List Loc} {ls : Array Slot} (hP : va_P D vwCl (fwl adr 67 (fG adr cs t)) H) (hS : va_S (fun q => s.heap.size ≤ q) s.heap H locs) (hl : lv_has ls 4 [(0, .ref b), (1, .ref (adr 0)), (2, .ref (adr 53)), (3, .int x3)])
    (kk : ∀ (t : fcS) (H : Heap) (locs : List Loc), Inv t → va_P D vwCl (fwl adr 67 (fG adr cs t)) H → va_S (fun q => s.heap.size ≤ q) s.heap H locs → W p l e room_1 s m #[Value.ref b] below meth c H locs 67 10343 (lw_Z below #[Value.ref b] s) (F0 m 1207 ls [])) : W p l e room_1 s m #[Value.ref b] below meth c H locs 67 10343 (lw_Z below #[Value.ref b] s) (F0 m 843 ls []) := by
  have hx := X.1.1
  have hb := X.1.2.1
  have hX := X.2.2.2.2.2.2.1
  have hbl := X.2.2.2.2.2.2.2
  have hbA : ¬ (fun q : Nat => s.heap.size ≤ q) b := Nat.not_le.mpr hbl
  have h := hOK t (xs (x3 + 1).toNatClampNeg) ht
  refine lv_aload_n hx hb dL_law_843 rfl (lv_at hl 1 rfl) ?_
  refine lv_aload_n hx hb dL_law_844 rfl (lv_at hl 0 rfl) ?_
  refine lv_iload_n hx hb dL_law_845 rfl (lv_at hl 3 rfl) ?_
  refine lv_iconst (v := 1) hx hb dL_law_846 (by decide) ?_
  refine lv_iadd hx hb dL_law_847 ?_
  refine va_sld hx hb hX hbl hbA hS (fl_in (j := 1) ex3 rfl (by omega) hL) dL_law_848 ?_
  refine lr_ci X (lr_runV (n := 1) (rest := []) X (c_X4_bound l D adr cs (by decide) t (xs (x3 + 1).toNatClampNeg) _ h) hP hS (by decide) (fG_FC adr cs t) rfl (fgV0 mw_25_6 mw_25_7 mw_25_8 mw_1_2 mw_25_9) rfl rfl (by decide +kernel) ⟨Nat.le_of_ble_eq_true rfl, Nat.le_of_ble_eq_true rfl⟩ rfl hl.1 rfl (Nat.le_of_ble_eq_true rfl) dL_law_849 ⟨Nat.le_of_ble_eq_true rfl, Nat.le_of_ble_eq_true rfl⟩) hS (fun r t1 H locs h hP hS => ?_)
  refine lv_aload_n hx hb dL_law_852 rfl (lv_at hl 2 rfl) ?_
  refine lv_aload_n hx hb dL_law_853 rfl (lv_at hl 0 rfl) ?_
  refine lv_iload_n hx hb dL_law_854 rfl (lv_at hl 3 rfl) ?_
  refine lv_iconst (v := 1) hx hb dL_law_855 (by decide) ?_
  refine lv_iadd hx hb dL_law_856 ?_
  refine va_sld hx hb hX hbl hbA hS (fl_in (j := 1) ex3 rfl (by omega) hL) dL_law_857 ?_
  refine lr_ci X (lr_runV (n := 1) (rest := [.int r]) X (c_X5_bound l D adr cs (by decide) t1 (xs (x3 + 1).toNatClampNeg) _ h) hP hS (by decide) (fG_MO adr cs t1) rfl (fgV0 mw_25_10 mw_25_11 mw_25_12 mw_1_5 mw_25_13) rfl rfl (by decide +kernel) ⟨Nat.le_of_ble_eq_true rfl, Nat.le_of_ble_eq_true rfl⟩ rfl hl.1 rfl (Nat.le_of_ble_eq_true rfl) dL_law_858 ⟨Nat.le_of_ble_eq_true rfl, Nat.le_of_ble_eq_true rfl⟩) hS (fun r2 t2 H locs h hP hS => ?_)
  refine lv_icmp_eq (tgt := 1207) hx hb dL_law_861 (by decide) (fun _ => ?_) (fun c9 => absurd h.1 c9)
  exact kk t2 H locs h.2 hP hS

set_option maxHeartbeats 4000000 in
set_option maxRecDepth 100000 in
theorem lc_21 {D : va_G} {adr : Nat → Nat} {cs : Nat → ClassId} {p : Program} {l : Launch} {e : Env} {s : State} {m : MethodId} {below : List Frame} {meth : Method} {c : Code} {b L : Nat} {xs : Nat → Int32} (hL : L ≤ 2560) (X : fLx D adr cs p s m b L xs c) {Inv : fcS → Prop} (hOK : fOK_22 Inv) {i : Nat} (hi : i + 5 ≤ L) {x3 : Int32} (ex3 : x3 = nI i) {t : fcS} (ht : Inv t) {H : Heap} {locs : List Loc} {ls : Array Slot} (hP : va_P D vwCl (fwl adr 67 (fG adr cs t)) H) (hS : va_S (fun q => s.heap.size ≤ q) s.heap H locs) (hl : lv_has ls 4 [(0, .ref b), (1, .ref (adr 0)), (2, .ref (adr 53)), (3, .int x3)])
    (kk : ∀ (t : fcS) (H : Heap) (locs : List Loc), Inv t → va_P D vwCl (fwl adr 67 (fG adr cs t)) H → va_S (fun q => s.heap.size ≤ q) s.heap H locs → W p l e room_1 s m #[Value.ref b] below meth c H locs 67 10343 (lw_Z below #[Value.ref b] s) (F0 m 1207 ls [])) : W p l e room_1 s m #[Value.ref b] below meth c H locs 67 10343 (lw_Z below #[Value.ref b] s) (F0 m 866 ls []) := by
  have hx := X.1.1
  have hb := X.1.2.1
  have hX := X.2.2.2.2.2.2.1
  have hbl := X.2.2.2.2.2.2.2
  have hbA : ¬ (fun q : Nat => s.heap.size ≤ q) b := Nat.not_le.mpr hbl
  have h := hOK t (xs (x3 + 1).toNatClampNeg) (xs (x3 + 2).toNatClampNeg) (xs (x3 + 3).toNatClampNeg) ht
  refine lv_aload_n hx hb dL_law_866 rfl (lv_at hl 1 rfl) ?_
  refine lv_aload_n hx hb dL_law_867 rfl (lv_at hl 0 rfl) ?_
  refine lv_iload_n hx hb dL_law_868 rfl (lv_at hl 3 rfl) ?_
  refine lv_iconst (v := 1) hx hb dL_law_869 (by decide) ?_
  refine lv_iadd hx hb dL_law_870 ?_
  refine va_sld hx hb hX hbl hbA hS (fl_in (j := 1) ex3 rfl (by omega) hL) dL_law_871 ?_
  refine lv_aload_n hx hb dL_law_872 rfl (lv_at hl 0 rfl) ?_
  refine lv_iload_n hx hb dL_law_873 rfl (lv_at hl 3 rfl) ?_
  refine lv_iconst (v := 2) hx hb dL_law_874 (by decide) ?_
  refine lv_iadd hx hb dL_law_875 ?_
  refine va_sld hx hb hX hbl hbA hS (fl_in (j := 2) ex3 rfl (by omega) hL) dL_law_876 ?_
  refine lv_aload_n hx hb dL_law_877 rfl (lv_at hl 0 rfl) ?_
  refine lv_iload_n hx hb dL_law_878 rfl (lv_at hl 3 rfl) ?_
  refine lv_iconst (v := 3) hx hb dL_law_879 (by decide) ?_
  refine lv_iadd hx hb dL_law_880 ?_
  refine va_sld hx hb hX hbl hbA hS (fl_in (j := 3) ex3 rfl (by omega) hL) dL_law_881 ?_
  refine lr_ci X (lr_runV (n := 3) (rest := []) X (c_X4_surface l D adr cs (by decide) t (xs (x3 + 1).toNatClampNeg) (xs (x3 + 2).toNatClampNeg) (xs (x3 + 3).toNatClampNeg) _ h) hP hS (by decide) (fG_FC adr cs t) rfl (fgV0 mw_25_14 mw_25_15 mw_25_16 mw_1_2 mw_25_17) rfl rfl (by decide +kernel) ⟨Nat.le_of_ble_eq_true rfl, Nat.le_of_ble_eq_true rfl⟩ rfl hl.1 rfl (Nat.le_of_ble_eq_true rfl) dL_law_882 ⟨Nat.le_of_ble_eq_true rfl, Nat.le_of_ble_eq_true rfl⟩) hS (fun r t1 H locs h hP hS => ?_)
  refine lv_aload_n hx hb dL_law_885 rfl (lv_at hl 2 rfl) ?_
  refine lv_aload_n hx hb dL_law_886 rfl (lv_at hl 0 rfl) ?_
  refine lv_iload_n hx hb dL_law_887 rfl (lv_at hl 3 rfl) ?_
  refine lv_iconst (v := 1) hx hb dL_law_888 (by decide) ?_
  refine lv_iadd hx hb dL_law_889 ?_
  refine va_sld hx hb hX hbl hbA hS (fl_in (j := 1) ex3 rfl (by omega) hL) dL_law_890 ?_
  refine lv_aload_n hx hb dL_law_891 rfl (lv_at hl 0 rfl) ?_
  refine lv_iload_n hx hb dL_law_892 rfl (lv_at hl 3 rfl) ?_
  refine lv_iconst (v := 2) hx hb dL_law_893 (by decide) ?_
  refine lv_iadd hx hb dL_law_894 ?_
  refine va_sld hx hb hX hbl hbA hS (fl_in (j := 2) ex3 rfl (by omega) hL) dL_law_895 ?_
  refine lv_aload_n hx hb dL_law_896 rfl (lv_at hl 0 rfl) ?_
  refine lv_iload_n hx hb dL_law_897 rfl (lv_at hl 3 rfl) ?_
  refine lv_iconst (v := 3) hx hb dL_law_898 (by decide) ?_
  refine lv_iadd hx hb dL_law_899 ?_
  refine va_sld hx hb hX hbl hbA hS (fl_in (j := 3) ex3 rfl (by omega) hL) dL_law_900 ?_
  refine lr_ci X (lr_runV (n := 3) (rest := [.int r]) X (c_X5_surface l D adr cs (by decide) t1 (xs (x3 + 1).toNatClampNeg) (xs (x3 + 2).toNatClampNeg) (xs (x3 + 3).toNatClampNeg) _ h) hP hS (by decide) (fG_MO adr cs t1) rfl (fgV0 mw_25_19 mw_25_20 mw_25_21 mw_1_5 mw_25_22) rfl rfl (by decide +kernel) ⟨Nat.le_of_ble_eq_true rfl, Nat.le_of_ble_eq_true rfl⟩ rfl hl.1 rfl (Nat.le_of_ble_eq_true rfl) dL_law_901 ⟨Nat.le_of_ble_eq_true rfl, Nat.le_of_ble_eq_true rfl⟩) hS (fun r2 t2 H locs h hP hS => ?_)
  refine lv_icmp_eq (tgt := 1207) hx hb dL_law_904 (by decide) (fun _ => ?_) (fun c9 => absurd h.1 c9)
  exact kk t2 H locs h.2 hP hS

set_option maxHeartbeats 4000000 in
set_option maxRecDepth 100000 in
theorem lc_22 {D : va_G} {adr : Nat → Nat} {cs : Nat → ClassId} {p : Program} {l : Launch} {e : Env} {s : State} {m : MethodId} {below : List Frame} {meth : Method} {c : Code} {b L : Nat} {xs : Nat → Int32} (hL : L ≤ 2560) (X : fLx D adr cs p s m b L xs c) {Inv : fcS → Prop} (hOK : fOK_23 Inv) {i : Nat} (hi : i + 5 ≤ L) {x3 : Int32} (ex3 : x3 = nI i) {t : fcS} (ht : Inv t) {H : Heap} {locs : List Loc} {ls : Array Slot} (hP : va_P D vwCl (fwl adr 67 (fG adr cs t)) H) (hS : va_S (fun q => s.heap.size ≤ q) s.heap H locs) (hl : lv_has ls 4 [(0, .ref b), (1, .ref (adr 0)), (2, .ref (adr 53)), (3, .int x3)])
    (kk : ∀ (t : fcS) (H : Heap) (locs : List Loc), Inv t → va_P D vwCl (fwl adr 67 (fG adr cs t)) H → va_S (fun q => s.heap.size ≤ q) s.heap H locs → W p l e room_1 s m #[Value.ref b] below meth c H locs 67 10343 (lw_Z below #[Value.ref b] s) (F0 m 1207 ls [])) : W p l e room_1 s m #[Value.ref b] below meth c H locs 67 10343 (lw_Z below #[Value.ref b] s) (F0 m 909 ls []) := by
  have hx := X.1.1
  have hb := X.1.2.1
  have hX := X.2.2.2.2.2.2.1
  have hbl := X.2.2.2.2.2.2.2
  have hbA : ¬ (fun q : Nat => s.heap.size ≤ q) b := Nat.not_le.mpr hbl
  have h := hOK t (xs (x3 + 1).toNatClampNeg) (xs (x3 + 2).toNatClampNeg) (xs (x3 + 3).toNatClampNeg) ht
  refine lv_aload_n hx hb dL_law_909 rfl (lv_at hl 1 rfl) ?_
  refine lv_aload_n hx hb dL_law_910 rfl (lv_at hl 0 rfl) ?_
  refine lv_iload_n hx hb dL_law_911 rfl (lv_at hl 3 rfl) ?_
  refine lv_iconst (v := 1) hx hb dL_law_912 (by decide) ?_
  refine lv_iadd hx hb dL_law_913 ?_
  refine va_sld hx hb hX hbl hbA hS (fl_in (j := 1) ex3 rfl (by omega) hL) dL_law_914 ?_
  refine lv_aload_n hx hb dL_law_915 rfl (lv_at hl 0 rfl) ?_
  refine lv_iload_n hx hb dL_law_916 rfl (lv_at hl 3 rfl) ?_
  refine lv_iconst (v := 2) hx hb dL_law_917 (by decide) ?_
  refine lv_iadd hx hb dL_law_918 ?_
  refine va_sld hx hb hX hbl hbA hS (fl_in (j := 2) ex3 rfl (by omega) hL) dL_law_919 ?_
  refine lv_aload_n hx hb dL_law_920 rfl (lv_at hl 0 rfl) ?_
  refine lv_iload_n hx hb dL_law_921 rfl (lv_at hl 3 rfl) ?_
  refine lv_iconst (v := 3) hx hb dL_law_922 (by decide) ?_
  refine lv_iadd hx hb dL_law_923 ?_
  refine va_sld hx hb hX hbl hbA hS (fl_in (j := 3) ex3 rfl (by omega) hL) dL_law_924 ?_
  refine lr_ci X (lr_runV (n := 3) (rest := []) X (c_X4_best l D adr cs (by decide) t (xs (x3 + 1).toNatClampNeg) (xs (x3 + 2).toNatClampNeg) (xs (x3 + 3).toNatClampNeg) _ h) hP hS (by decide) (fG_FC adr cs t) rfl (fgV0 mw_25_23 mw_26_0 mw_26_1 mw_1_2 mw_26_2) rfl rfl (by decide +kernel) ⟨Nat.le_of_ble_eq_true rfl, Nat.le_of_ble_eq_true rfl⟩ rfl hl.1 rfl (Nat.le_of_ble_eq_true rfl) dL_law_925 ⟨Nat.le_of_ble_eq_true rfl, Nat.le_of_ble_eq_true rfl⟩) hS (fun r t1 H locs h hP hS => ?_)
  refine lv_aload_n hx hb dL_law_928 rfl (lv_at hl 2 rfl) ?_
  refine lv_aload_n hx hb dL_law_929 rfl (lv_at hl 0 rfl) ?_
  refine lv_iload_n hx hb dL_law_930 rfl (lv_at hl 3 rfl) ?_
  refine lv_iconst (v := 1) hx hb dL_law_931 (by decide) ?_
  refine lv_iadd hx hb dL_law_932 ?_
  refine va_sld hx hb hX hbl hbA hS (fl_in (j := 1) ex3 rfl (by omega) hL) dL_law_933 ?_
  refine lv_aload_n hx hb dL_law_934 rfl (lv_at hl 0 rfl) ?_
  refine lv_iload_n hx hb dL_law_935 rfl (lv_at hl 3 rfl) ?_
  refine lv_iconst (v := 2) hx hb dL_law_936 (by decide) ?_
  refine lv_iadd hx hb dL_law_937 ?_
  refine va_sld hx hb hX hbl hbA hS (fl_in (j := 2) ex3 rfl (by omega) hL) dL_law_938 ?_
  refine lv_aload_n hx hb dL_law_939 rfl (lv_at hl 0 rfl) ?_
  refine lv_iload_n hx hb dL_law_940 rfl (lv_at hl 3 rfl) ?_
  refine lv_iconst (v := 3) hx hb dL_law_941 (by decide) ?_
  refine lv_iadd hx hb dL_law_942 ?_
  refine va_sld hx hb hX hbl hbA hS (fl_in (j := 3) ex3 rfl (by omega) hL) dL_law_943 ?_
  refine lr_ci X (lr_runV (n := 3) (rest := [.int r]) X (c_X5_best l D adr cs (by decide) t1 (xs (x3 + 1).toNatClampNeg) (xs (x3 + 2).toNatClampNeg) (xs (x3 + 3).toNatClampNeg) _ h) hP hS (by decide) (fG_MO adr cs t1) rfl (fgV0 mw_26_8 mw_26_9 mw_26_10 mw_1_5 mw_26_11) rfl rfl (by decide +kernel) ⟨Nat.le_of_ble_eq_true rfl, Nat.le_of_ble_eq_true rfl⟩ rfl hl.1 rfl (Nat.le_of_ble_eq_true rfl) dL_law_944 ⟨Nat.le_of_ble_eq_true rfl, Nat.le_of_ble_eq_true rfl⟩) hS (fun r2 t2 H locs h hP hS => ?_)
  refine lv_icmp_eq (tgt := 1207) hx hb dL_law_947 (by decide) (fun _ => ?_) (fun c9 => absurd h.1 c9)
  exact kk t2 H locs h.2 hP hS

set_option maxHeartbeats 4000000 in
set_option maxRecDepth 100000 in
theorem lc_23 {D : va_G} {adr : Nat → Nat} {cs : Nat → ClassId} {p : Program} {l : Launch} {e : Env} {s : State} {m : MethodId} {below : List Frame} {meth : Method} {c : Code} {b L : Nat} {xs : Nat → Int32} (hL : L ≤ 2560) (X : fLx D adr cs p s m b L xs c) {Inv : fcS → Prop} (hOK : fOK_24 Inv) {i : Nat} (hi : i + 5 ≤ L) {x3 : Int32} (ex3 : x3 = nI i) {t : fcS} (ht : Inv t) {H : Heap} {locs : List Loc} {ls : Array Slot} (hP : va_P D vwCl (fwl adr 67 (fG adr cs t)) H) (hS : va_S (fun q => s.heap.size ≤ q) s.heap H locs) (hl : lv_has ls 4 [(0, .ref b), (1, .ref (adr 0)), (2, .ref (adr 53)), (3, .int x3)])
    (kk : ∀ (t : fcS) (H : Heap) (locs : List Loc), Inv t → va_P D vwCl (fwl adr 67 (fG adr cs t)) H → va_S (fun q => s.heap.size ≤ q) s.heap H locs → W p l e room_1 s m #[Value.ref b] below meth c H locs 67 10343 (lw_Z below #[Value.ref b] s) (F0 m 1207 ls [])) : W p l e room_1 s m #[Value.ref b] below meth c H locs 67 10343 (lw_Z below #[Value.ref b] s) (F0 m 952 ls []) := by
  have hx := X.1.1
  have hb := X.1.2.1
  have hX := X.2.2.2.2.2.2.1
  have hbl := X.2.2.2.2.2.2.2
  have hbA : ¬ (fun q : Nat => s.heap.size ≤ q) b := Nat.not_le.mpr hbl
  have h := hOK t (xs (x3 + 1).toNatClampNeg) (xs (x3 + 2).toNatClampNeg) (xs (x3 + 3).toNatClampNeg) ht
  refine lv_aload_n hx hb dL_law_952 rfl (lv_at hl 1 rfl) ?_
  refine lv_aload_n hx hb dL_law_953 rfl (lv_at hl 0 rfl) ?_
  refine lv_iload_n hx hb dL_law_954 rfl (lv_at hl 3 rfl) ?_
  refine lv_iconst (v := 1) hx hb dL_law_955 (by decide) ?_
  refine lv_iadd hx hb dL_law_956 ?_
  refine va_sld hx hb hX hbl hbA hS (fl_in (j := 1) ex3 rfl (by omega) hL) dL_law_957 ?_
  refine lv_aload_n hx hb dL_law_958 rfl (lv_at hl 0 rfl) ?_
  refine lv_iload_n hx hb dL_law_959 rfl (lv_at hl 3 rfl) ?_
  refine lv_iconst (v := 2) hx hb dL_law_960 (by decide) ?_
  refine lv_iadd hx hb dL_law_961 ?_
  refine va_sld hx hb hX hbl hbA hS (fl_in (j := 2) ex3 rfl (by omega) hL) dL_law_962 ?_
  refine lv_aload_n hx hb dL_law_963 rfl (lv_at hl 0 rfl) ?_
  refine lv_iload_n hx hb dL_law_964 rfl (lv_at hl 3 rfl) ?_
  refine lv_iconst (v := 3) hx hb dL_law_965 (by decide) ?_
  refine lv_iadd hx hb dL_law_966 ?_
  refine va_sld hx hb hX hbl hbA hS (fl_in (j := 3) ex3 rfl (by omega) hL) dL_law_967 ?_
  refine lr_ci X (lr_runV (n := 3) (rest := []) X (c_X4_isClass l D adr cs (by decide) t (xs (x3 + 1).toNatClampNeg) (xs (x3 + 2).toNatClampNeg) (xs (x3 + 3).toNatClampNeg) _ h) hP hS (by decide) (fG_FC adr cs t) rfl (fgV0 mw_26_16 mw_26_17 mw_26_18 mw_1_2 mw_26_19) rfl rfl (by decide +kernel) ⟨Nat.le_of_ble_eq_true rfl, Nat.le_of_ble_eq_true rfl⟩ rfl hl.1 rfl (Nat.le_of_ble_eq_true rfl) dL_law_968 ⟨Nat.le_of_ble_eq_true rfl, Nat.le_of_ble_eq_true rfl⟩) hS (fun r t1 H locs h hP hS => ?_)
  refine lv_aload_n hx hb dL_law_971 rfl (lv_at hl 2 rfl) ?_
  refine lv_aload_n hx hb dL_law_972 rfl (lv_at hl 0 rfl) ?_
  refine lv_iload_n hx hb dL_law_973 rfl (lv_at hl 3 rfl) ?_
  refine lv_iconst (v := 1) hx hb dL_law_974 (by decide) ?_
  refine lv_iadd hx hb dL_law_975 ?_
  refine va_sld hx hb hX hbl hbA hS (fl_in (j := 1) ex3 rfl (by omega) hL) dL_law_976 ?_
  refine lv_aload_n hx hb dL_law_977 rfl (lv_at hl 0 rfl) ?_
  refine lv_iload_n hx hb dL_law_978 rfl (lv_at hl 3 rfl) ?_
  refine lv_iconst (v := 2) hx hb dL_law_979 (by decide) ?_
  refine lv_iadd hx hb dL_law_980 ?_
  refine va_sld hx hb hX hbl hbA hS (fl_in (j := 2) ex3 rfl (by omega) hL) dL_law_981 ?_
  refine lv_aload_n hx hb dL_law_982 rfl (lv_at hl 0 rfl) ?_
  refine lv_iload_n hx hb dL_law_983 rfl (lv_at hl 3 rfl) ?_
  refine lv_iconst (v := 3) hx hb dL_law_984 (by decide) ?_
  refine lv_iadd hx hb dL_law_985 ?_
  refine va_sld hx hb hX hbl hbA hS (fl_in (j := 3) ex3 rfl (by omega) hL) dL_law_986 ?_
  refine lr_ci X (lr_runV (n := 3) (rest := [.int r]) X (c_X5_isClass l D adr cs (by decide) t1 (xs (x3 + 1).toNatClampNeg) (xs (x3 + 2).toNatClampNeg) (xs (x3 + 3).toNatClampNeg) _ h) hP hS (by decide) (fG_MO adr cs t1) rfl (fgV0 mw_27_10 mw_27_11 mw_27_12 mw_1_5 mw_27_13) rfl rfl (by decide +kernel) ⟨Nat.le_of_ble_eq_true rfl, Nat.le_of_ble_eq_true rfl⟩ rfl hl.1 rfl (Nat.le_of_ble_eq_true rfl) dL_law_987 ⟨Nat.le_of_ble_eq_true rfl, Nat.le_of_ble_eq_true rfl⟩) hS (fun r2 t2 H locs h hP hS => ?_)
  refine lv_icmp_eq (tgt := 1207) hx hb dL_law_990 (by decide) (fun _ => ?_) (fun c9 => absurd h.1 c9)
  exact kk t2 H locs h.2 hP hS

set_option maxHeartbeats 4000000 in
set_option maxRecDepth 100000 in
theorem lc_24 {D : va_G} {adr : Nat → Nat} {cs : Nat → ClassId} {p : Program} {l : Launch} {e : Env} {s : State} {m : MethodId} {below : List Frame} {meth : Method} {c : Code} {b L : Nat} {xs : Nat → Int32} (hL : L ≤ 2560) (X : fLx D adr cs p s m b L xs c) {Inv : fcS → Prop} (hOK : fOK_25 Inv) {i : Nat} (hi : i + 5 ≤ L) {x3 : Int32} (ex3 : x3 = nI i) {t : fcS} (ht : Inv t) {H : Heap} {locs : List Loc} {ls : Array Slot} (hP : va_P D vwCl (fwl adr 67 (fG adr cs t)) H) (hS : va_S (fun q => s.heap.size ≤ q) s.heap H locs) (hl : lv_has ls 4 [(0, .ref b), (1, .ref (adr 0)), (2, .ref (adr 53)), (3, .int x3)])
    (kk : ∀ (t : fcS) (H : Heap) (locs : List Loc), Inv t → va_P D vwCl (fwl adr 67 (fG adr cs t)) H → va_S (fun q => s.heap.size ≤ q) s.heap H locs → W p l e room_1 s m #[Value.ref b] below meth c H locs 67 10343 (lw_Z below #[Value.ref b] s) (F0 m 1207 ls [])) : W p l e room_1 s m #[Value.ref b] below meth c H locs 67 10343 (lw_Z below #[Value.ref b] s) (F0 m 995 ls []) := by
  have hx := X.1.1
  have hb := X.1.2.1
  have hX := X.2.2.2.2.2.2.1
  have hbl := X.2.2.2.2.2.2.2
  have hbA : ¬ (fun q : Nat => s.heap.size ≤ q) b := Nat.not_le.mpr hbl
  have h := hOK t (xs (x3 + 1).toNatClampNeg) ht
  refine lv_aload_n hx hb dL_law_995 rfl (lv_at hl 1 rfl) ?_
  refine lv_aload_n hx hb dL_law_996 rfl (lv_at hl 0 rfl) ?_
  refine lv_iload_n hx hb dL_law_997 rfl (lv_at hl 3 rfl) ?_
  refine lv_iconst (v := 1) hx hb dL_law_998 (by decide) ?_
  refine lv_iadd hx hb dL_law_999 ?_
  refine va_sld hx hb hX hbl hbA hS (fl_in (j := 1) ex3 rfl (by omega) hL) dL_law_1000 ?_
  refine lr_ci X (lr_runV (n := 1) (rest := []) X (c_X4_classes l D adr cs (by decide) t (xs (x3 + 1).toNatClampNeg) _ h) hP hS (by decide) (fG_FC adr cs t) rfl (fgV0 mw_28_2 mw_28_3 mw_28_4 mw_1_2 mw_28_5) rfl rfl (by decide +kernel) ⟨Nat.le_of_ble_eq_true rfl, Nat.le_of_ble_eq_true rfl⟩ rfl hl.1 rfl (Nat.le_of_ble_eq_true rfl) dL_law_1001 ⟨Nat.le_of_ble_eq_true rfl, Nat.le_of_ble_eq_true rfl⟩) hS (fun r t1 H locs h hP hS => ?_)
  refine lv_aload_n hx hb dL_law_1004 rfl (lv_at hl 2 rfl) ?_
  refine lv_aload_n hx hb dL_law_1005 rfl (lv_at hl 0 rfl) ?_
  refine lv_iload_n hx hb dL_law_1006 rfl (lv_at hl 3 rfl) ?_
  refine lv_iconst (v := 1) hx hb dL_law_1007 (by decide) ?_
  refine lv_iadd hx hb dL_law_1008 ?_
  refine va_sld hx hb hX hbl hbA hS (fl_in (j := 1) ex3 rfl (by omega) hL) dL_law_1009 ?_
  refine lr_ci X (lr_runV (n := 1) (rest := [.int r]) X (c_X5_classes l D adr cs (by decide) t1 (xs (x3 + 1).toNatClampNeg) _ h) hP hS (by decide) (fG_MO adr cs t1) rfl (fgV0 mw_28_22 mw_28_23 mw_29_0 mw_1_5 mw_29_1) rfl rfl (by decide +kernel) ⟨Nat.le_of_ble_eq_true rfl, Nat.le_of_ble_eq_true rfl⟩ rfl hl.1 rfl (Nat.le_of_ble_eq_true rfl) dL_law_1010 ⟨Nat.le_of_ble_eq_true rfl, Nat.le_of_ble_eq_true rfl⟩) hS (fun r2 t2 H locs h hP hS => ?_)
  refine lv_icmp_eq (tgt := 1207) hx hb dL_law_1013 (by decide) (fun _ => ?_) (fun c9 => absurd h.1 c9)
  exact kk t2 H locs h.2 hP hS

set_option maxHeartbeats 4000000 in
set_option maxRecDepth 100000 in
theorem lc_25 {D : va_G} {adr : Nat → Nat} {cs : Nat → ClassId} {p : Program} {l : Launch} {e : Env} {s : State} {m : MethodId} {below : List Frame} {meth : Method} {c : Code} {b L : Nat} {xs : Nat → Int32} (hL : L ≤ 2560) (X : fLx D adr cs p s m b L xs c) {Inv : fcS → Prop} (hOK : fOK_26 Inv) {i : Nat} (hi : i + 5 ≤ L) {x3 : Int32} (ex3 : x3 = nI i) {t : fcS} (ht : Inv t) {H : Heap} {locs : List Loc} {ls : Array Slot} (hP : va_P D vwCl (fwl adr 67 (fG adr cs t)) H) (hS : va_S (fun q => s.heap.size ≤ q) s.heap H locs) (hl : lv_has ls 4 [(0, .ref b), (1, .ref (adr 0)), (2, .ref (adr 53)), (3, .int x3)])
    (kk : ∀ (t : fcS) (H : Heap) (locs : List Loc), Inv t → va_P D vwCl (fwl adr 67 (fG adr cs t)) H → va_S (fun q => s.heap.size ≤ q) s.heap H locs → W p l e room_1 s m #[Value.ref b] below meth c H locs 67 10343 (lw_Z below #[Value.ref b] s) (F0 m 1207 ls [])) : W p l e room_1 s m #[Value.ref b] below meth c H locs 67 10343 (lw_Z below #[Value.ref b] s) (F0 m 1018 ls []) := by
  have hx := X.1.1
  have hb := X.1.2.1
  have hX := X.2.2.2.2.2.2.1
  have hbl := X.2.2.2.2.2.2.2
  have hbA : ¬ (fun q : Nat => s.heap.size ≤ q) b := Nat.not_le.mpr hbl
  have h := hOK t (xs (x3 + 1).toNatClampNeg) (xs (x3 + 2).toNatClampNeg) (xs (x3 + 3).toNatClampNeg) ht
  refine lv_aload_n hx hb dL_law_1018 rfl (lv_at hl 1 rfl) ?_
  refine lv_aload_n hx hb dL_law_1019 rfl (lv_at hl 0 rfl) ?_
  refine lv_iload_n hx hb dL_law_1020 rfl (lv_at hl 3 rfl) ?_
  refine lv_iconst (v := 1) hx hb dL_law_1021 (by decide) ?_
  refine lv_iadd hx hb dL_law_1022 ?_
  refine va_sld hx hb hX hbl hbA hS (fl_in (j := 1) ex3 rfl (by omega) hL) dL_law_1023 ?_
  refine lv_aload_n hx hb dL_law_1024 rfl (lv_at hl 0 rfl) ?_
  refine lv_iload_n hx hb dL_law_1025 rfl (lv_at hl 3 rfl) ?_
  refine lv_iconst (v := 2) hx hb dL_law_1026 (by decide) ?_
  refine lv_iadd hx hb dL_law_1027 ?_
  refine va_sld hx hb hX hbl hbA hS (fl_in (j := 2) ex3 rfl (by omega) hL) dL_law_1028 ?_
  refine lv_aload_n hx hb dL_law_1029 rfl (lv_at hl 0 rfl) ?_
  refine lv_iload_n hx hb dL_law_1030 rfl (lv_at hl 3 rfl) ?_
  refine lv_iconst (v := 3) hx hb dL_law_1031 (by decide) ?_
  refine lv_iadd hx hb dL_law_1032 ?_
  refine va_sld hx hb hX hbl hbA hS (fl_in (j := 3) ex3 rfl (by omega) hL) dL_law_1033 ?_
  refine lr_ci X (lr_runV (n := 3) (rest := []) X (c_X4_classAt l D adr cs (by decide) t (xs (x3 + 1).toNatClampNeg) (xs (x3 + 2).toNatClampNeg) (xs (x3 + 3).toNatClampNeg) _ h) hP hS (by decide) (fG_FC adr cs t) rfl (fgV0 mw_29_11 mw_29_12 mw_29_13 mw_1_2 mw_29_14) rfl rfl (by decide +kernel) ⟨Nat.le_of_ble_eq_true rfl, Nat.le_of_ble_eq_true rfl⟩ rfl hl.1 rfl (Nat.le_of_ble_eq_true rfl) dL_law_1034 ⟨Nat.le_of_ble_eq_true rfl, Nat.le_of_ble_eq_true rfl⟩) hS (fun r t1 H locs h hP hS => ?_)
  refine lv_aload_n hx hb dL_law_1037 rfl (lv_at hl 2 rfl) ?_
  refine lv_aload_n hx hb dL_law_1038 rfl (lv_at hl 0 rfl) ?_
  refine lv_iload_n hx hb dL_law_1039 rfl (lv_at hl 3 rfl) ?_
  refine lv_iconst (v := 1) hx hb dL_law_1040 (by decide) ?_
  refine lv_iadd hx hb dL_law_1041 ?_
  refine va_sld hx hb hX hbl hbA hS (fl_in (j := 1) ex3 rfl (by omega) hL) dL_law_1042 ?_
  refine lv_aload_n hx hb dL_law_1043 rfl (lv_at hl 0 rfl) ?_
  refine lv_iload_n hx hb dL_law_1044 rfl (lv_at hl 3 rfl) ?_
  refine lv_iconst (v := 2) hx hb dL_law_1045 (by decide) ?_
  refine lv_iadd hx hb dL_law_1046 ?_
  refine va_sld hx hb hX hbl hbA hS (fl_in (j := 2) ex3 rfl (by omega) hL) dL_law_1047 ?_
  refine lv_aload_n hx hb dL_law_1048 rfl (lv_at hl 0 rfl) ?_
  refine lv_iload_n hx hb dL_law_1049 rfl (lv_at hl 3 rfl) ?_
  refine lv_iconst (v := 3) hx hb dL_law_1050 (by decide) ?_
  refine lv_iadd hx hb dL_law_1051 ?_
  refine va_sld hx hb hX hbl hbA hS (fl_in (j := 3) ex3 rfl (by omega) hL) dL_law_1052 ?_
  refine lr_ci X (lr_runV (n := 3) (rest := [.int r]) X (c_X5_classAt l D adr cs (by decide) t1 (xs (x3 + 1).toNatClampNeg) (xs (x3 + 2).toNatClampNeg) (xs (x3 + 3).toNatClampNeg) _ h) hP hS (by decide) (fG_MO adr cs t1) rfl (fgV0 mw_30_3 mw_30_4 mw_30_5 mw_1_5 mw_30_6) rfl rfl (by decide +kernel) ⟨Nat.le_of_ble_eq_true rfl, Nat.le_of_ble_eq_true rfl⟩ rfl hl.1 rfl (Nat.le_of_ble_eq_true rfl) dL_law_1053 ⟨Nat.le_of_ble_eq_true rfl, Nat.le_of_ble_eq_true rfl⟩) hS (fun r2 t2 H locs h hP hS => ?_)
  refine lv_icmp_eq (tgt := 1207) hx hb dL_law_1056 (by decide) (fun _ => ?_) (fun c9 => absurd h.1 c9)
  exact kk t2 H locs h.2 hP hS

set_option maxHeartbeats 4000000 in
set_option maxRecDepth 100000 in
theorem lc_26 {D : va_G} {adr : Nat → Nat} {cs : Nat → ClassId} {p : Program} {l : Launch} {e : Env} {s : State} {m : MethodId} {below : List Frame} {meth : Method} {c : Code} {b L : Nat} {xs : Nat → Int32} (hL : L ≤ 2560) (X : fLx D adr cs p s m b L xs c) {Inv : fcS → Prop} (hOK : fOK_27 Inv) {i : Nat} (hi : i + 5 ≤ L) {x3 : Int32} (ex3 : x3 = nI i) {t : fcS} (ht : Inv t) {H : Heap} {locs : List Loc} {ls : Array Slot} (hP : va_P D vwCl (fwl adr 67 (fG adr cs t)) H) (hS : va_S (fun q => s.heap.size ≤ q) s.heap H locs) (hl : lv_has ls 4 [(0, .ref b), (1, .ref (adr 0)), (2, .ref (adr 53)), (3, .int x3)])
    (kk : ∀ (t : fcS) (H : Heap) (locs : List Loc), Inv t → va_P D vwCl (fwl adr 67 (fG adr cs t)) H → va_S (fun q => s.heap.size ≤ q) s.heap H locs → W p l e room_1 s m #[Value.ref b] below meth c H locs 67 10343 (lw_Z below #[Value.ref b] s) (F0 m 1207 ls [])) : W p l e room_1 s m #[Value.ref b] below meth c H locs 67 10343 (lw_Z below #[Value.ref b] s) (F0 m 1061 ls []) := by
  have hx := X.1.1
  have hb := X.1.2.1
  have hX := X.2.2.2.2.2.2.1
  have hbl := X.2.2.2.2.2.2.2
  have hbA : ¬ (fun q : Nat => s.heap.size ≤ q) b := Nat.not_le.mpr hbl
  have h := hOK t (xs (x3 + 1).toNatClampNeg) (xs (x3 + 2).toNatClampNeg) (xs (x3 + 3).toNatClampNeg) ht
  refine lv_aload_n hx hb dL_law_1061 rfl (lv_at hl 1 rfl) ?_
  refine lv_aload_n hx hb dL_law_1062 rfl (lv_at hl 0 rfl) ?_
  refine lv_iload_n hx hb dL_law_1063 rfl (lv_at hl 3 rfl) ?_
  refine lv_iconst (v := 1) hx hb dL_law_1064 (by decide) ?_
  refine lv_iadd hx hb dL_law_1065 ?_
  refine va_sld hx hb hX hbl hbA hS (fl_in (j := 1) ex3 rfl (by omega) hL) dL_law_1066 ?_
  refine lv_aload_n hx hb dL_law_1067 rfl (lv_at hl 0 rfl) ?_
  refine lv_iload_n hx hb dL_law_1068 rfl (lv_at hl 3 rfl) ?_
  refine lv_iconst (v := 2) hx hb dL_law_1069 (by decide) ?_
  refine lv_iadd hx hb dL_law_1070 ?_
  refine va_sld hx hb hX hbl hbA hS (fl_in (j := 2) ex3 rfl (by omega) hL) dL_law_1071 ?_
  refine lv_aload_n hx hb dL_law_1072 rfl (lv_at hl 0 rfl) ?_
  refine lv_iload_n hx hb dL_law_1073 rfl (lv_at hl 3 rfl) ?_
  refine lv_iconst (v := 3) hx hb dL_law_1074 (by decide) ?_
  refine lv_iadd hx hb dL_law_1075 ?_
  refine va_sld hx hb hX hbl hbA hS (fl_in (j := 3) ex3 rfl (by omega) hL) dL_law_1076 ?_
  refine lr_ci X (lr_runV (n := 3) (rest := []) X (c_X4_add l D adr cs (by decide) t (xs (x3 + 1).toNatClampNeg) (xs (x3 + 2).toNatClampNeg) (xs (x3 + 3).toNatClampNeg) _ h) hP hS (by decide) (fG_FC adr cs t) rfl (fgV0 mw_30_7 mw_30_8 mw_30_9 mw_1_2 mw_30_10) rfl rfl (by decide +kernel) ⟨Nat.le_of_ble_eq_true rfl, Nat.le_of_ble_eq_true rfl⟩ rfl hl.1 rfl (Nat.le_of_ble_eq_true rfl) dL_law_1077 ⟨Nat.le_of_ble_eq_true rfl, Nat.le_of_ble_eq_true rfl⟩) hS (fun r t1 H locs h hP hS => ?_)
  refine lv_aload_n hx hb dL_law_1080 rfl (lv_at hl 2 rfl) ?_
  refine lv_aload_n hx hb dL_law_1081 rfl (lv_at hl 0 rfl) ?_
  refine lv_iload_n hx hb dL_law_1082 rfl (lv_at hl 3 rfl) ?_
  refine lv_iconst (v := 1) hx hb dL_law_1083 (by decide) ?_
  refine lv_iadd hx hb dL_law_1084 ?_
  refine va_sld hx hb hX hbl hbA hS (fl_in (j := 1) ex3 rfl (by omega) hL) dL_law_1085 ?_
  refine lv_aload_n hx hb dL_law_1086 rfl (lv_at hl 0 rfl) ?_
  refine lv_iload_n hx hb dL_law_1087 rfl (lv_at hl 3 rfl) ?_
  refine lv_iconst (v := 2) hx hb dL_law_1088 (by decide) ?_
  refine lv_iadd hx hb dL_law_1089 ?_
  refine va_sld hx hb hX hbl hbA hS (fl_in (j := 2) ex3 rfl (by omega) hL) dL_law_1090 ?_
  refine lv_aload_n hx hb dL_law_1091 rfl (lv_at hl 0 rfl) ?_
  refine lv_iload_n hx hb dL_law_1092 rfl (lv_at hl 3 rfl) ?_
  refine lv_iconst (v := 3) hx hb dL_law_1093 (by decide) ?_
  refine lv_iadd hx hb dL_law_1094 ?_
  refine va_sld hx hb hX hbl hbA hS (fl_in (j := 3) ex3 rfl (by omega) hL) dL_law_1095 ?_
  refine lr_ci X (lr_runV (n := 3) (rest := [.int r]) X (c_X5_add l D adr cs (by decide) t1 (xs (x3 + 1).toNatClampNeg) (xs (x3 + 2).toNatClampNeg) (xs (x3 + 3).toNatClampNeg) _ h) hP hS (by decide) (fG_MO adr cs t1) rfl (fgV0 mw_31_21 mw_31_22 mw_31_23 mw_1_5 mw_32_0) rfl rfl (by decide +kernel) ⟨Nat.le_of_ble_eq_true rfl, Nat.le_of_ble_eq_true rfl⟩ rfl hl.1 rfl (Nat.le_of_ble_eq_true rfl) dL_law_1096 ⟨Nat.le_of_ble_eq_true rfl, Nat.le_of_ble_eq_true rfl⟩) hS (fun r2 t2 H locs h hP hS => ?_)
  refine lv_icmp_eq (tgt := 1207) hx hb dL_law_1099 (by decide) (fun _ => ?_) (fun c9 => absurd h.1 c9)
  exact kk t2 H locs h.2 hP hS

set_option maxHeartbeats 4000000 in
set_option maxRecDepth 100000 in
theorem lc_27 {D : va_G} {adr : Nat → Nat} {cs : Nat → ClassId} {p : Program} {l : Launch} {e : Env} {s : State} {m : MethodId} {below : List Frame} {meth : Method} {c : Code} {b L : Nat} {xs : Nat → Int32} (hL : L ≤ 2560) (X : fLx D adr cs p s m b L xs c) {Inv : fcS → Prop} (hOK : fOK_28 Inv) {i : Nat} (hi : i + 5 ≤ L) {x3 : Int32} (ex3 : x3 = nI i) {t : fcS} (ht : Inv t) {H : Heap} {locs : List Loc} {ls : Array Slot} (hP : va_P D vwCl (fwl adr 67 (fG adr cs t)) H) (hS : va_S (fun q => s.heap.size ≤ q) s.heap H locs) (hl : lv_has ls 4 [(0, .ref b), (1, .ref (adr 0)), (2, .ref (adr 53)), (3, .int x3)])
    (kk : ∀ (t : fcS) (H : Heap) (locs : List Loc), Inv t → va_P D vwCl (fwl adr 67 (fG adr cs t)) H → va_S (fun q => s.heap.size ≤ q) s.heap H locs → W p l e room_1 s m #[Value.ref b] below meth c H locs 67 10343 (lw_Z below #[Value.ref b] s) (F0 m 1207 ls [])) : W p l e room_1 s m #[Value.ref b] below meth c H locs 67 10343 (lw_Z below #[Value.ref b] s) (F0 m 1104 ls []) := by
  have hx := X.1.1
  have hb := X.1.2.1
  have hX := X.2.2.2.2.2.2.1
  have hbl := X.2.2.2.2.2.2.2
  have hbA : ¬ (fun q : Nat => s.heap.size ≤ q) b := Nat.not_le.mpr hbl
  have h := hOK t (xs (x3 + 1).toNatClampNeg) (xs (x3 + 2).toNatClampNeg) ht
  refine lv_aload_n hx hb dL_law_1104 rfl (lv_at hl 1 rfl) ?_
  refine lv_aload_n hx hb dL_law_1105 rfl (lv_at hl 0 rfl) ?_
  refine lv_iload_n hx hb dL_law_1106 rfl (lv_at hl 3 rfl) ?_
  refine lv_iconst (v := 1) hx hb dL_law_1107 (by decide) ?_
  refine lv_iadd hx hb dL_law_1108 ?_
  refine va_sld hx hb hX hbl hbA hS (fl_in (j := 1) ex3 rfl (by omega) hL) dL_law_1109 ?_
  refine lv_aload_n hx hb dL_law_1110 rfl (lv_at hl 0 rfl) ?_
  refine lv_iload_n hx hb dL_law_1111 rfl (lv_at hl 3 rfl) ?_
  refine lv_iconst (v := 2) hx hb dL_law_1112 (by decide) ?_
  refine lv_iadd hx hb dL_law_1113 ?_
  refine va_sld hx hb hX hbl hbA hS (fl_in (j := 2) ex3 rfl (by omega) hL) dL_law_1114 ?_
  refine lr_ci X (lr_runV (n := 2) (rest := []) X (c_X4_minus l D adr cs (by decide) t (xs (x3 + 1).toNatClampNeg) (xs (x3 + 2).toNatClampNeg) _ h) hP hS (by decide) (fG_FC adr cs t) rfl (fgV0 mw_32_13 mw_32_14 mw_32_15 mw_1_2 mw_32_16) rfl rfl (by decide +kernel) ⟨Nat.le_of_ble_eq_true rfl, Nat.le_of_ble_eq_true rfl⟩ rfl hl.1 rfl (Nat.le_of_ble_eq_true rfl) dL_law_1115 ⟨Nat.le_of_ble_eq_true rfl, Nat.le_of_ble_eq_true rfl⟩) hS (fun r t1 H locs h hP hS => ?_)
  refine lv_aload_n hx hb dL_law_1118 rfl (lv_at hl 2 rfl) ?_
  refine lv_aload_n hx hb dL_law_1119 rfl (lv_at hl 0 rfl) ?_
  refine lv_iload_n hx hb dL_law_1120 rfl (lv_at hl 3 rfl) ?_
  refine lv_iconst (v := 1) hx hb dL_law_1121 (by decide) ?_
  refine lv_iadd hx hb dL_law_1122 ?_
  refine va_sld hx hb hX hbl hbA hS (fl_in (j := 1) ex3 rfl (by omega) hL) dL_law_1123 ?_
  refine lv_aload_n hx hb dL_law_1124 rfl (lv_at hl 0 rfl) ?_
  refine lv_iload_n hx hb dL_law_1125 rfl (lv_at hl 3 rfl) ?_
  refine lv_iconst (v := 2) hx hb dL_law_1126 (by decide) ?_
  refine lv_iadd hx hb dL_law_1127 ?_
  refine va_sld hx hb hX hbl hbA hS (fl_in (j := 2) ex3 rfl (by omega) hL) dL_law_1128 ?_
  refine lr_ci X (lr_runV (n := 2) (rest := [.int r]) X (c_X5_minus l D adr cs (by decide) t1 (xs (x3 + 1).toNatClampNeg) (xs (x3 + 2).toNatClampNeg) _ h) hP hS (by decide) (fG_MO adr cs t1) rfl (fgV0 mw_32_21 mw_32_22 mw_32_23 mw_1_5 mw_33_0) rfl rfl (by decide +kernel) ⟨Nat.le_of_ble_eq_true rfl, Nat.le_of_ble_eq_true rfl⟩ rfl hl.1 rfl (Nat.le_of_ble_eq_true rfl) dL_law_1129 ⟨Nat.le_of_ble_eq_true rfl, Nat.le_of_ble_eq_true rfl⟩) hS (fun r2 t2 H locs h hP hS => ?_)
  refine lv_icmp_eq (tgt := 1207) hx hb dL_law_1132 (by decide) (fun _ => ?_) (fun c9 => absurd h.1 c9)
  exact kk t2 H locs h.2 hP hS

set_option maxHeartbeats 4000000 in
set_option maxRecDepth 100000 in
theorem lc_28 {D : va_G} {adr : Nat → Nat} {cs : Nat → ClassId} {p : Program} {l : Launch} {e : Env} {s : State} {m : MethodId} {below : List Frame} {meth : Method} {c : Code} {b L : Nat} {xs : Nat → Int32} (hL : L ≤ 2560) (X : fLx D adr cs p s m b L xs c) {Inv : fcS → Prop} (hOK : fOK_29 Inv) {i : Nat} (hi : i + 5 ≤ L) {x3 : Int32} (ex3 : x3 = nI i) {t : fcS} (ht : Inv t) {H : Heap} {locs : List Loc} {ls : Array Slot} (hP : va_P D vwCl (fwl adr 67 (fG adr cs t)) H) (hS : va_S (fun q => s.heap.size ≤ q) s.heap H locs) (hl : lv_has ls 4 [(0, .ref b), (1, .ref (adr 0)), (2, .ref (adr 53)), (3, .int x3)])
    (kk : ∀ (t : fcS) (H : Heap) (locs : List Loc), Inv t → va_P D vwCl (fwl adr 67 (fG adr cs t)) H → va_S (fun q => s.heap.size ≤ q) s.heap H locs → W p l e room_1 s m #[Value.ref b] below meth c H locs 67 10343 (lw_Z below #[Value.ref b] s) (F0 m 1207 ls [])) : W p l e room_1 s m #[Value.ref b] below meth c H locs 67 10343 (lw_Z below #[Value.ref b] s) (F0 m 1137 ls []) := by
  have hx := X.1.1
  have hb := X.1.2.1
  have hX := X.2.2.2.2.2.2.1
  have hbl := X.2.2.2.2.2.2.2
  have hbA : ¬ (fun q : Nat => s.heap.size ≤ q) b := Nat.not_le.mpr hbl
  have h := hOK t (xs (x3 + 1).toNatClampNeg) (xs (x3 + 2).toNatClampNeg) ht
  refine lv_aload_n hx hb dL_law_1137 rfl (lv_at hl 1 rfl) ?_
  refine lv_aload_n hx hb dL_law_1138 rfl (lv_at hl 0 rfl) ?_
  refine lv_iload_n hx hb dL_law_1139 rfl (lv_at hl 3 rfl) ?_
  refine lv_iconst (v := 1) hx hb dL_law_1140 (by decide) ?_
  refine lv_iadd hx hb dL_law_1141 ?_
  refine va_sld hx hb hX hbl hbA hS (fl_in (j := 1) ex3 rfl (by omega) hL) dL_law_1142 ?_
  refine lv_aload_n hx hb dL_law_1143 rfl (lv_at hl 0 rfl) ?_
  refine lv_iload_n hx hb dL_law_1144 rfl (lv_at hl 3 rfl) ?_
  refine lv_iconst (v := 2) hx hb dL_law_1145 (by decide) ?_
  refine lv_iadd hx hb dL_law_1146 ?_
  refine va_sld hx hb hX hbl hbA hS (fl_in (j := 2) ex3 rfl (by omega) hL) dL_law_1147 ?_
  refine lr_ci X (lr_runV (n := 2) (rest := []) X (c_X4_order l D adr cs (by decide) t (xs (x3 + 1).toNatClampNeg) (xs (x3 + 2).toNatClampNeg) _ h) hP hS (by decide) (fG_FC adr cs t) rfl (fgV0 mw_33_1 mw_33_2 mw_33_3 mw_1_2 mw_33_4) rfl rfl (by decide +kernel) ⟨Nat.le_of_ble_eq_true rfl, Nat.le_of_ble_eq_true rfl⟩ rfl hl.1 rfl (Nat.le_of_ble_eq_true rfl) dL_law_1148 ⟨Nat.le_of_ble_eq_true rfl, Nat.le_of_ble_eq_true rfl⟩) hS (fun r t1 H locs h hP hS => ?_)
  refine lv_aload_n hx hb dL_law_1151 rfl (lv_at hl 2 rfl) ?_
  refine lv_aload_n hx hb dL_law_1152 rfl (lv_at hl 0 rfl) ?_
  refine lv_iload_n hx hb dL_law_1153 rfl (lv_at hl 3 rfl) ?_
  refine lv_iconst (v := 1) hx hb dL_law_1154 (by decide) ?_
  refine lv_iadd hx hb dL_law_1155 ?_
  refine va_sld hx hb hX hbl hbA hS (fl_in (j := 1) ex3 rfl (by omega) hL) dL_law_1156 ?_
  refine lv_aload_n hx hb dL_law_1157 rfl (lv_at hl 0 rfl) ?_
  refine lv_iload_n hx hb dL_law_1158 rfl (lv_at hl 3 rfl) ?_
  refine lv_iconst (v := 2) hx hb dL_law_1159 (by decide) ?_
  refine lv_iadd hx hb dL_law_1160 ?_
  refine va_sld hx hb hX hbl hbA hS (fl_in (j := 2) ex3 rfl (by omega) hL) dL_law_1161 ?_
  refine lr_ci X (lr_runV (n := 2) (rest := [.int r]) X (c_X5_order l D adr cs (by decide) t1 (xs (x3 + 1).toNatClampNeg) (xs (x3 + 2).toNatClampNeg) _ h) hP hS (by decide) (fG_MO adr cs t1) rfl (fgV0 mw_33_14 mw_33_15 mw_33_16 mw_1_5 mw_33_17) rfl rfl (by decide +kernel) ⟨Nat.le_of_ble_eq_true rfl, Nat.le_of_ble_eq_true rfl⟩ rfl hl.1 rfl (Nat.le_of_ble_eq_true rfl) dL_law_1162 ⟨Nat.le_of_ble_eq_true rfl, Nat.le_of_ble_eq_true rfl⟩) hS (fun r2 t2 H locs h hP hS => ?_)
  refine lv_icmp_eq (tgt := 1207) hx hb dL_law_1165 (by decide) (fun _ => ?_) (fun c9 => absurd h.1 c9)
  exact kk t2 H locs h.2 hP hS

set_option maxHeartbeats 4000000 in
set_option maxRecDepth 100000 in
theorem lc_29 {D : va_G} {adr : Nat → Nat} {cs : Nat → ClassId} {p : Program} {l : Launch} {e : Env} {s : State} {m : MethodId} {below : List Frame} {meth : Method} {c : Code} {b L : Nat} {xs : Nat → Int32} (hL : L ≤ 2560) (X : fLx D adr cs p s m b L xs c) {Inv : fcS → Prop} (hOK : fOK_30 Inv) {i : Nat} (hi : i + 5 ≤ L) {x3 : Int32} (ex3 : x3 = nI i) {t : fcS} (ht : Inv t) {H : Heap} {locs : List Loc} {ls : Array Slot} (hP : va_P D vwCl (fwl adr 67 (fG adr cs t)) H) (hS : va_S (fun q => s.heap.size ≤ q) s.heap H locs) (hl : lv_has ls 4 [(0, .ref b), (1, .ref (adr 0)), (2, .ref (adr 53)), (3, .int x3)])
    (kk : ∀ (t : fcS) (H : Heap) (locs : List Loc), Inv t → va_P D vwCl (fwl adr 67 (fG adr cs t)) H → va_S (fun q => s.heap.size ≤ q) s.heap H locs → W p l e room_1 s m #[Value.ref b] below meth c H locs 67 10343 (lw_Z below #[Value.ref b] s) (F0 m 1207 ls [])) : W p l e room_1 s m #[Value.ref b] below meth c H locs 67 10343 (lw_Z below #[Value.ref b] s) (F0 m 1170 ls []) := by
  have hx := X.1.1
  have hb := X.1.2.1
  have hX := X.2.2.2.2.2.2.1
  have hbl := X.2.2.2.2.2.2.2
  have hbA : ¬ (fun q : Nat => s.heap.size ≤ q) b := Nat.not_le.mpr hbl
  have h := hOK t (xs (x3 + 1).toNatClampNeg) ht
  refine lv_aload_n hx hb dL_law_1170 rfl (lv_at hl 1 rfl) ?_
  refine lv_aload_n hx hb dL_law_1171 rfl (lv_at hl 0 rfl) ?_
  refine lv_iload_n hx hb dL_law_1172 rfl (lv_at hl 3 rfl) ?_
  refine lv_iconst (v := 1) hx hb dL_law_1173 (by decide) ?_
  refine lv_iadd hx hb dL_law_1174 ?_
  refine va_sld hx hb hX hbl hbA hS (fl_in (j := 1) ex3 rfl (by omega) hL) dL_law_1175 ?_
  refine lr_ci X (lr_runV (n := 1) (rest := []) X (c_X4_told l D adr cs (by decide) t (xs (x3 + 1).toNatClampNeg) _ h) hP hS (by decide) (fG_FC adr cs t) rfl (fgV0 mw_33_18 mw_33_19 mw_33_20 mw_1_2 mw_33_21) rfl rfl (by decide +kernel) ⟨Nat.le_of_ble_eq_true rfl, Nat.le_of_ble_eq_true rfl⟩ rfl hl.1 rfl (Nat.le_of_ble_eq_true rfl) dL_law_1176 ⟨Nat.le_of_ble_eq_true rfl, Nat.le_of_ble_eq_true rfl⟩) hS (fun r t1 H locs h hP hS => ?_)
  refine lv_aload_n hx hb dL_law_1179 rfl (lv_at hl 2 rfl) ?_
  refine lv_aload_n hx hb dL_law_1180 rfl (lv_at hl 0 rfl) ?_
  refine lv_iload_n hx hb dL_law_1181 rfl (lv_at hl 3 rfl) ?_
  refine lv_iconst (v := 1) hx hb dL_law_1182 (by decide) ?_
  refine lv_iadd hx hb dL_law_1183 ?_
  refine va_sld hx hb hX hbl hbA hS (fl_in (j := 1) ex3 rfl (by omega) hL) dL_law_1184 ?_
  refine lr_ci X (lr_runV (n := 1) (rest := [.int r]) X (c_X5_told l D adr cs (by decide) t1 (xs (x3 + 1).toNatClampNeg) _ h) hP hS (by decide) (fG_MO adr cs t1) rfl (fgV0 mw_33_22 mw_33_23 mw_34_0 mw_1_5 mw_34_1) rfl rfl (by decide +kernel) ⟨Nat.le_of_ble_eq_true rfl, Nat.le_of_ble_eq_true rfl⟩ rfl hl.1 rfl (Nat.le_of_ble_eq_true rfl) dL_law_1185 ⟨Nat.le_of_ble_eq_true rfl, Nat.le_of_ble_eq_true rfl⟩) hS (fun r2 t2 H locs h hP hS => ?_)
  refine lv_icmp_eq (tgt := 1207) hx hb dL_law_1188 (by decide) (fun _ => ?_) (fun c9 => absurd h.1 c9)
  exact kk t2 H locs h.2 hP hS

set_option maxHeartbeats 4000000 in
set_option maxRecDepth 100000 in
theorem lc_30 {D : va_G} {adr : Nat → Nat} {cs : Nat → ClassId} {p : Program} {l : Launch} {e : Env} {s : State} {m : MethodId} {below : List Frame} {meth : Method} {c : Code} {b L : Nat} {xs : Nat → Int32} (hL : L ≤ 2560) (X : fLx D adr cs p s m b L xs c) {Inv : fcS → Prop} (hOK : fOK_31 Inv) {i : Nat} (hi : i + 5 ≤ L) {x3 : Int32} (ex3 : x3 = nI i) {t : fcS} (ht : Inv t) {H : Heap} {locs : List Loc} {ls : Array Slot} (hP : va_P D vwCl (fwl adr 67 (fG adr cs t)) H) (hS : va_S (fun q => s.heap.size ≤ q) s.heap H locs) (hl : lv_has ls 4 [(0, .ref b), (1, .ref (adr 0)), (2, .ref (adr 53)), (3, .int x3)])
    (kk : ∀ (t : fcS) (H : Heap) (locs : List Loc), Inv t → va_P D vwCl (fwl adr 67 (fG adr cs t)) H → va_S (fun q => s.heap.size ≤ q) s.heap H locs → W p l e room_1 s m #[Value.ref b] below meth c H locs 67 10343 (lw_Z below #[Value.ref b] s) (F0 m 1207 ls [])) : W p l e room_1 s m #[Value.ref b] below meth c H locs 67 10343 (lw_Z below #[Value.ref b] s) (F0 m 1193 ls []) := by
  have hx := X.1.1
  have hb := X.1.2.1
  have hX := X.2.2.2.2.2.2.1
  have hbl := X.2.2.2.2.2.2.2
  have hbA : ¬ (fun q : Nat => s.heap.size ≤ q) b := Nat.not_le.mpr hbl
  have h := hOK t ht
  refine lv_aload_n hx hb dL_law_1193 rfl (lv_at hl 1 rfl) ?_
  refine lr_cl X (lr_runV (n := 0) (rest := []) X (c_X4_traced l D adr cs (by decide) t  _ h) hP hS (by decide) (fG_FC adr cs t) rfl (fgV0 mw_34_2 mw_34_3 mw_34_4 mw_1_2 mw_34_5) rfl rfl (by decide +kernel) ⟨Nat.le_of_ble_eq_true rfl, Nat.le_of_ble_eq_true rfl⟩ rfl hl.1 rfl (Nat.le_of_ble_eq_true rfl) dL_law_1194 ⟨Nat.le_of_ble_eq_true rfl, Nat.le_of_ble_eq_true rfl⟩) hS (fun r t1 H locs h hP hS => ?_)
  refine lv_aload_n hx hb dL_law_1197 rfl (lv_at hl 2 rfl) ?_
  refine lr_cl X (lr_runV (n := 0) (rest := [.long r]) X (c_X5_traced l D adr cs (by decide) t1  _ h) hP hS (by decide) (fG_MO adr cs t1) rfl (fgV0 mw_34_6 mw_34_7 mw_34_8 mw_1_5 mw_34_9) rfl rfl (by decide +kernel) ⟨Nat.le_of_ble_eq_true rfl, Nat.le_of_ble_eq_true rfl⟩ rfl hl.1 rfl (Nat.le_of_ble_eq_true rfl) dL_law_1198 ⟨Nat.le_of_ble_eq_true rfl, Nat.le_of_ble_eq_true rfl⟩) hS (fun r2 t2 H locs h hP hS => ?_)
  refine W.lcmp hx hb dL_law_1201 ?_
  refine lv_if_eq (tgt := 1207) hx hb dL_law_1202 (by decide) (fun _ => ?_) (fun c9 => absurd ((lg_cmp_eq _ _).mpr h.1) c9)
  exact kk t2 H locs h.2 hP hS

set_option maxHeartbeats 8000000 in
set_option maxRecDepth 100000 in
theorem law_loop {D : va_G} {adr : Nat → Nat} {cs : Nat → ClassId} {p : Program} {l : Launch} {e : Env} {s : State} {m : MethodId} {below : List Frame} {meth : Method} {c : Code} {b L : Nat} {xs : Nat → Int32} (hL : L ≤ 2560) (X : fLx D adr cs p s m b L xs c) {Inv : fcS → Prop} (hOK : fOK Inv) (hr : meth.sig.returnType = ret) (hlocks : meth.locks = false) : ∀ (n i : Nat) (x3 : Int32) (t : fcS) (H : Heap) (locs : List Loc) (ls : Array Slot), i ≤ L → L - i < n → x3 = nI i → Inv t → va_P D vwCl (fwl adr 67 (fG adr cs t)) H → va_S (fun q => s.heap.size ≤ q) s.heap H locs → lv_has ls 4 [(0, .ref b), (1, .ref (adr 0)), (2, .ref (adr 53)), (3, .int x3)] → W p l e room_1 s m #[Value.ref b] below meth c H locs 67 10343 (lw_Z below #[Value.ref b] s) (F0 m 18 ls []) := by
  have hx := X.1.1
  have hb := X.1.2.1
  have hX := X.2.2.2.2.2.2.1
  have hbl := X.2.2.2.2.2.2.2
  have hbA : ¬ (fun q : Nat => s.heap.size ≤ q) b := Nat.not_le.mpr hbl
  intro n
  induction n with
  | zero => intro i x3 t H locs ls _ h; exact absurd h (Nat.not_lt_zero _)
  | succ n ih =>
    intro i x3 t H locs ls hiL hn ex3 ht hP hS hl
    refine lv_iload_n hx hb dL_law_18 rfl (lv_at hl 3 rfl) ?_
    refine lv_aload_n hx hb dL_law_19 rfl (lv_at hl 0 rfl) ?_
    refine va_slen hx hb hX hbl hbA hS dL_law_20 ?_
    refine lv_iconst (v := 5) hx hb dL_law_21 (by decide) ?_
    refine lv_isub hx hb dL_law_22 ?_
    have hcmp : (Int32.ofNat L - 5 < x3) ↔ L < i + 5 := by
      rw [ex3, Int32.lt_iff_toInt_lt]
      have e1 : (Int32.ofNat L - 5).toInt = (L : Int) - 5 := pk_sub_toInt (a := L) (b := 5) (by omega) (by omega)
      rw [e1, nI_toInt (by omega)]; omega
    refine lv_icmp_gt (tgt := 1213) hx hb dL_law_23 (by decide) (fun c9 => ?_) (fun c9 => ?_)
    · refine lv_iconst (v := 1) hx hb dL_law_1213 (by decide) ?_
      refine va_forget hS.2.2 ?_
      refine W.widen (k := 600000) (n := 7302250) (by decide) (by decide) ?_
      exact lw_ret hx hb hr hlocks dL_law_1214
    have hi : i + 5 ≤ L := by
      rcases Nat.lt_or_ge L (i + 5) with q | q
      · exact absurd (hcmp.mpr q) c9
      · exact q
    refine lv_aload_n hx hb dL_law_26 rfl (lv_at hl 0 rfl) ?_
    refine lv_iload_n hx hb dL_law_27 rfl (lv_at hl 3 rfl) ?_
    refine va_sld hx hb hX hbl hbA hS (by rw [ex3]; exact vp_in_nI (by omega) (by omega)) dL_law_28 ?_
    refine lv_bipush (v := 31) hx hb dL_law_29 (by decide) ?_
    refine lv_iand hx hb dL_law_31 ?_
    generalize (xs x3.toNatClampNeg &&& 31) = sw
    have next : ∀ (t : fcS) (H : Heap) (locs : List Loc), Inv t → va_P D vwCl (fwl adr 67 (fG adr cs t)) H → va_S (fun q => s.heap.size ≤ q) s.heap H locs → W p l e room_1 s m #[Value.ref b] below meth c H locs 67 10343 (lw_Z below #[Value.ref b] s) (F0 m 1207 ls []) := by
      intro t H locs ht hP hS
      refine lv_iinc (v := nI (i + 5)) (lv' := [(3, .int (nI (i + 5))), (0, .ref b), (1, .ref (adr 0)), (2, .ref (adr 53))]) hx hb dL_law_1207 hl (k := 3) rfl (by rw [ex3, ← nI_add]; rfl) (by decide) rfl (fun ls hl => ?_)
      refine lv_goto (tgt := 18) hx hb dL_law_1210 (by decide) ?_
      exact ih (i + 5) _ t H locs ls hi (by omega) rfl ht hP hS (lv_sub hl [1, 2, 3, 0] rfl)
    by_cases c0 : sw = 0
    · refine lv_tableIn (off := 140) (tgt := 172) hx hb dL_law_32 (by rw [c0]; decide) (by rw [c0]; decide) (by rw [c0]; rfl) (by decide) ?_
      exact lc_0 hL X (hOK.2.1) hi ex3 ht hP hS hl next
    by_cases c1 : sw = 1
    · refine lv_tableIn (off := 163) (tgt := 195) hx hb dL_law_32 (by rw [c1]; decide) (by rw [c1]; decide) (by rw [c1]; rfl) (by decide) ?_
      exact lc_1 hL X (hOK.2.2.1) hi ex3 ht hP hS hl next
    by_cases c2 : sw = 2
    · refine lv_tableIn (off := 186) (tgt := 218) hx hb dL_law_32 (by rw [c2]; decide) (by rw [c2]; decide) (by rw [c2]; rfl) (by decide) ?_
      exact lc_2 hL X (hOK.2.2.2.1) hi ex3 ht hP hS hl next
    by_cases c3 : sw = 3
    · refine lv_tableIn (off := 209) (tgt := 241) hx hb dL_law_32 (by rw [c3]; decide) (by rw [c3]; decide) (by rw [c3]; rfl) (by decide) ?_
      exact lc_3 hL X (hOK.2.2.2.2.1) hi ex3 ht hP hS hl next
    by_cases c4 : sw = 4
    · refine lv_tableIn (off := 252) (tgt := 284) hx hb dL_law_32 (by rw [c4]; decide) (by rw [c4]; decide) (by rw [c4]; rfl) (by decide) ?_
      exact lc_4 hL X (hOK.2.2.2.2.2.1) hi ex3 ht hP hS hl next
    by_cases c5 : sw = 5
    · refine lv_tableIn (off := 295) (tgt := 327) hx hb dL_law_32 (by rw [c5]; decide) (by rw [c5]; decide) (by rw [c5]; rfl) (by decide) ?_
      exact lc_5 hL X (hOK.2.2.2.2.2.2.1) hi ex3 ht hP hS hl next
    by_cases c6 : sw = 6
    · refine lv_tableIn (off := 328) (tgt := 360) hx hb dL_law_32 (by rw [c6]; decide) (by rw [c6]; decide) (by rw [c6]; rfl) (by decide) ?_
      exact lc_6 hL X (hOK.2.2.2.2.2.2.2.1) hi ex3 ht hP hS hl next
    by_cases c7 : sw = 7
    · refine lv_tableIn (off := 371) (tgt := 403) hx hb dL_law_32 (by rw [c7]; decide) (by rw [c7]; decide) (by rw [c7]; rfl) (by decide) ?_
      exact lc_7 hL X (hOK.2.2.2.2.2.2.2.2.1) hi ex3 ht hP hS hl next
    by_cases c8 : sw = 8
    · refine lv_tableIn (off := 404) (tgt := 436) hx hb dL_law_32 (by rw [c8]; decide) (by rw [c8]; decide) (by rw [c8]; rfl) (by decide) ?_
      exact lc_8 hL X (hOK.2.2.2.2.2.2.2.2.2.1) hi ex3 ht hP hS hl next
    by_cases c9 : sw = 9
    · refine lv_tableIn (off := 437) (tgt := 469) hx hb dL_law_32 (by rw [c9]; decide) (by rw [c9]; decide) (by rw [c9]; rfl) (by decide) ?_
      exact lc_9 hL X (hOK.2.2.2.2.2.2.2.2.2.2.1) hi ex3 ht hP hS hl next
    by_cases c10 : sw = 10
    · refine lv_tableIn (off := 470) (tgt := 502) hx hb dL_law_32 (by rw [c10]; decide) (by rw [c10]; decide) (by rw [c10]; rfl) (by decide) ?_
      exact lc_10 hL X (hOK.2.2.2.2.2.2.2.2.2.2.2.1) hi ex3 ht hP hS hl next
    by_cases c11 : sw = 11
    · refine lv_tableIn (off := 523) (tgt := 555) hx hb dL_law_32 (by rw [c11]; decide) (by rw [c11]; decide) (by rw [c11]; rfl) (by decide) ?_
      exact lc_11 hL X (hOK.2.2.2.2.2.2.2.2.2.2.2.2.1) hi ex3 ht hP hS hl next
    by_cases c12 : sw = 12
    · refine lv_tableIn (off := 566) (tgt := 598) hx hb dL_law_32 (by rw [c12]; decide) (by rw [c12]; decide) (by rw [c12]; rfl) (by decide) ?_
      exact lc_12 hL X (hOK.2.2.2.2.2.2.2.2.2.2.2.2.2.1) hi ex3 ht hP hS hl next
    by_cases c13 : sw = 13
    · refine lv_tableIn (off := 579) (tgt := 611) hx hb dL_law_32 (by rw [c13]; decide) (by rw [c13]; decide) (by rw [c13]; rfl) (by decide) ?_
      exact lc_13 hL X (hOK.2.2.2.2.2.2.2.2.2.2.2.2.2.2.1) hi ex3 ht hP hS hl next
    by_cases c14 : sw = 14
    · refine lv_tableIn (off := 612) (tgt := 644) hx hb dL_law_32 (by rw [c14]; decide) (by rw [c14]; decide) (by rw [c14]; rfl) (by decide) ?_
      exact lc_14 hL X (hOK.2.2.2.2.2.2.2.2.2.2.2.2.2.2.2.1) hi ex3 ht hP hS hl next
    by_cases c15 : sw = 15
    · refine lv_tableIn (off := 655) (tgt := 687) hx hb dL_law_32 (by rw [c15]; decide) (by rw [c15]; decide) (by rw [c15]; rfl) (by decide) ?_
      exact lc_15 hL X (hOK.2.2.2.2.2.2.2.2.2.2.2.2.2.2.2.2.1) hi ex3 ht hP hS hl next
    by_cases c16 : sw = 16
    · refine lv_tableIn (off := 688) (tgt := 720) hx hb dL_law_32 (by rw [c16]; decide) (by rw [c16]; decide) (by rw [c16]; rfl) (by decide) ?_
      exact lc_16 hL X (hOK.2.2.2.2.2.2.2.2.2.2.2.2.2.2.2.2.2.1) hi ex3 ht hP hS hl next
    by_cases c17 : sw = 17
    · refine lv_tableIn (off := 721) (tgt := 753) hx hb dL_law_32 (by rw [c17]; decide) (by rw [c17]; decide) (by rw [c17]; rfl) (by decide) ?_
      exact lc_17 hL X (hOK.2.2.2.2.2.2.2.2.2.2.2.2.2.2.2.2.2.2.1) hi ex3 ht hP hS hl next
    by_cases c18 : sw = 18
    · refine lv_tableIn (off := 754) (tgt := 786) hx hb dL_law_32 (by rw [c18]; decide) (by rw [c18]; decide) (by rw [c18]; rfl) (by decide) ?_
      exact lc_18 hL X (hOK.2.2.2.2.2.2.2.2.2.2.2.2.2.2.2.2.2.2.2.1) hi ex3 ht hP hS hl next
    by_cases c19 : sw = 19
    · refine lv_tableIn (off := 788) (tgt := 820) hx hb dL_law_32 (by rw [c19]; decide) (by rw [c19]; decide) (by rw [c19]; rfl) (by decide) ?_
      exact lc_19 hL X (hOK.2.2.2.2.2.2.2.2.2.2.2.2.2.2.2.2.2.2.2.2.1) hi ex3 ht hP hS hl next
    by_cases c20 : sw = 20
    · refine lv_tableIn (off := 811) (tgt := 843) hx hb dL_law_32 (by rw [c20]; decide) (by rw [c20]; decide) (by rw [c20]; rfl) (by decide) ?_
      exact lc_20 hL X (hOK.2.2.2.2.2.2.2.2.2.2.2.2.2.2.2.2.2.2.2.2.2.1) hi ex3 ht hP hS hl next
    by_cases c21 : sw = 21
    · refine lv_tableIn (off := 834) (tgt := 866) hx hb dL_law_32 (by rw [c21]; decide) (by rw [c21]; decide) (by rw [c21]; rfl) (by decide) ?_
      exact lc_21 hL X (hOK.2.2.2.2.2.2.2.2.2.2.2.2.2.2.2.2.2.2.2.2.2.2.1) hi ex3 ht hP hS hl next
    by_cases c22 : sw = 22
    · refine lv_tableIn (off := 877) (tgt := 909) hx hb dL_law_32 (by rw [c22]; decide) (by rw [c22]; decide) (by rw [c22]; rfl) (by decide) ?_
      exact lc_22 hL X (hOK.2.2.2.2.2.2.2.2.2.2.2.2.2.2.2.2.2.2.2.2.2.2.2.1) hi ex3 ht hP hS hl next
    by_cases c23 : sw = 23
    · refine lv_tableIn (off := 920) (tgt := 952) hx hb dL_law_32 (by rw [c23]; decide) (by rw [c23]; decide) (by rw [c23]; rfl) (by decide) ?_
      exact lc_23 hL X (hOK.2.2.2.2.2.2.2.2.2.2.2.2.2.2.2.2.2.2.2.2.2.2.2.2.1) hi ex3 ht hP hS hl next
    by_cases c24 : sw = 24
    · refine lv_tableIn (off := 963) (tgt := 995) hx hb dL_law_32 (by rw [c24]; decide) (by rw [c24]; decide) (by rw [c24]; rfl) (by decide) ?_
      exact lc_24 hL X (hOK.2.2.2.2.2.2.2.2.2.2.2.2.2.2.2.2.2.2.2.2.2.2.2.2.2.1) hi ex3 ht hP hS hl next
    by_cases c25 : sw = 25
    · refine lv_tableIn (off := 986) (tgt := 1018) hx hb dL_law_32 (by rw [c25]; decide) (by rw [c25]; decide) (by rw [c25]; rfl) (by decide) ?_
      exact lc_25 hL X (hOK.2.2.2.2.2.2.2.2.2.2.2.2.2.2.2.2.2.2.2.2.2.2.2.2.2.2.1) hi ex3 ht hP hS hl next
    by_cases c26 : sw = 26
    · refine lv_tableIn (off := 1029) (tgt := 1061) hx hb dL_law_32 (by rw [c26]; decide) (by rw [c26]; decide) (by rw [c26]; rfl) (by decide) ?_
      exact lc_26 hL X (hOK.2.2.2.2.2.2.2.2.2.2.2.2.2.2.2.2.2.2.2.2.2.2.2.2.2.2.2.1) hi ex3 ht hP hS hl next
    by_cases c27 : sw = 27
    · refine lv_tableIn (off := 1072) (tgt := 1104) hx hb dL_law_32 (by rw [c27]; decide) (by rw [c27]; decide) (by rw [c27]; rfl) (by decide) ?_
      exact lc_27 hL X (hOK.2.2.2.2.2.2.2.2.2.2.2.2.2.2.2.2.2.2.2.2.2.2.2.2.2.2.2.2.1) hi ex3 ht hP hS hl next
    by_cases c28 : sw = 28
    · refine lv_tableIn (off := 1105) (tgt := 1137) hx hb dL_law_32 (by rw [c28]; decide) (by rw [c28]; decide) (by rw [c28]; rfl) (by decide) ?_
      exact lc_28 hL X (hOK.2.2.2.2.2.2.2.2.2.2.2.2.2.2.2.2.2.2.2.2.2.2.2.2.2.2.2.2.2.1) hi ex3 ht hP hS hl next
    by_cases c29 : sw = 29
    · refine lv_tableIn (off := 1138) (tgt := 1170) hx hb dL_law_32 (by rw [c29]; decide) (by rw [c29]; decide) (by rw [c29]; rfl) (by decide) ?_
      exact lc_29 hL X (hOK.2.2.2.2.2.2.2.2.2.2.2.2.2.2.2.2.2.2.2.2.2.2.2.2.2.2.2.2.2.2.1) hi ex3 ht hP hS hl next
    by_cases c30 : sw = 30
    · refine lv_tableIn (off := 1161) (tgt := 1193) hx hb dL_law_32 (by rw [c30]; decide) (by rw [c30]; decide) (by rw [c30]; rfl) (by decide) ?_
      exact lc_30 hL X (hOK.2.2.2.2.2.2.2.2.2.2.2.2.2.2.2.2.2.2.2.2.2.2.2.2.2.2.2.2.2.2.2) hi ex3 ht hP hS hl next
    refine lv_tableOut (tgt := 1207) hx hb dL_law_32 (by have q0 := lv_neT (a := 0) c0 (by decide); have q1 := lv_neT (a := 1) c1 (by decide); have q2 := lv_neT (a := 2) c2 (by decide); have q3 := lv_neT (a := 3) c3 (by decide); have q4 := lv_neT (a := 4) c4 (by decide); have q5 := lv_neT (a := 5) c5 (by decide); have q6 := lv_neT (a := 6) c6 (by decide); have q7 := lv_neT (a := 7) c7 (by decide); have q8 := lv_neT (a := 8) c8 (by decide); have q9 := lv_neT (a := 9) c9 (by decide); have q10 := lv_neT (a := 10) c10 (by decide); have q11 := lv_neT (a := 11) c11 (by decide); have q12 := lv_neT (a := 12) c12 (by decide); have q13 := lv_neT (a := 13) c13 (by decide); have q14 := lv_neT (a := 14) c14 (by decide); have q15 := lv_neT (a := 15) c15 (by decide); have q16 := lv_neT (a := 16) c16 (by decide); have q17 := lv_neT (a := 17) c17 (by decide); have q18 := lv_neT (a := 18) c18 (by decide); have q19 := lv_neT (a := 19) c19 (by decide); have q20 := lv_neT (a := 20) c20 (by decide); have q21 := lv_neT (a := 21) c21 (by decide); have q22 := lv_neT (a := 22) c22 (by decide); have q23 := lv_neT (a := 23) c23 (by decide); have q24 := lv_neT (a := 24) c24 (by decide); have q25 := lv_neT (a := 25) c25 (by decide); have q26 := lv_neT (a := 26) c26 (by decide); have q27 := lv_neT (a := 27) c27 (by decide); have q28 := lv_neT (a := 28) c28 (by decide); have q29 := lv_neT (a := 29) c29 (by decide); have q30 := lv_neT (a := 30) c30 (by decide); omega) (by decide) ?_
    exact next t H locs ht hP hS

