/-! one list of words for all: a callee's words lie in it -/
theorem fgV {own Cn : String} {index : Nat} {y : MethodName} {bytes : ByteArray} {maxL : Nat} {ret : Option FieldType} {c0 : Cond} (h1 : Cond.methodLink own index y ∈ wsL_law) (h2 : Cond.instanceMethod y ∈ wsL_law) (h3 : Cond.selects Cn y y ∈ wsL_law) (h4 : Cond.initialized Cn ∈ wsL_law) (h5 : Cond.code y bytes maxL ret ∈ wsL_law) : GoodIn (c0 :: wsL_law) (wsV own index Cn y (Cond.code y bytes maxL ret :: wsL_law)) := by
  intro w hw
  have hm : w ∈ wsL_law := by
    rcases List.mem_append.mp hw with h | h
    · simp only [List.mem_cons, List.not_mem_nil, or_false] at h
      rcases h with rfl | rfl | rfl | rfl <;> assumption
    · rcases List.mem_cons.mp h with rfl | h <;> assumption
  exact ⟨List.mem_cons_of_mem _ hm, good_of_word (wsG_all w hm)⟩
theorem fgS {own : String} {index : Nat} {y : MethodName} {bytes : ByteArray} {maxL : Nat} {ret : Option FieldType} {c0 : Cond} (h1 : Cond.methodLink own index y ∈ wsL_law) (h2 : Cond.static y ∈ wsL_law) (h4 : Cond.initialized y.cls ∈ wsL_law) (h5 : Cond.code y bytes maxL ret ∈ wsL_law) : GoodIn (c0 :: wsL_law) (va_wsS own index y (Cond.code y bytes maxL ret :: wsL_law)) := by
  intro w hw
  have hm : w ∈ wsL_law := by
    rcases List.mem_append.mp hw with h | h
    · simp only [List.mem_cons, List.not_mem_nil, or_false] at h
      rcases h with rfl | rfl | rfl <;> assumption
    · rcases List.mem_cons.mp h with rfl | h <;> assumption
  exact ⟨List.mem_cons_of_mem _ hm, good_of_word (wsG_all w hm)⟩
theorem fgN {y : MethodName} {bytes : ByteArray} {maxL : Nat} {ret : Option FieldType} {c0 : Cond} (h5 : Cond.code y bytes maxL ret ∈ wsL_law) : GoodIn (c0 :: wsL_law) (Cond.code y bytes maxL ret :: wsL_law) := by
  intro w hw
  have hm : w ∈ wsL_law := by rcases List.mem_cons.mp hw with rfl | h <;> assumption
  exact ⟨List.mem_cons_of_mem _ hm, good_of_word (wsG_all w hm)⟩
section FC
variable {D : va_G} {adr : Nat → Nat} {cs : Nat → ClassId} {N : Nat} {p : Program} {l : Launch} {e : Env} {R : Room} {s : State} {m : MethodId} {args : Array Value} {below : List Frame} {meth : Method} {c : Code} {H : Heap} {locs : List Loc} {Q : State → Prop}
variable {cc : ByteArray} {nL : Nat} {ret : Option FieldType} {own : String} {ws : List Cond} {pc : Nat} {ls : Array Slot} {rest : List Value} {t : fcS} {k : Nat}
variable {y : MethodName} {bytes : ByteArray} {maxL n index : Nat} {ret2 : Option FieldType} {wsc ws' : List Cond} {rm : Room} {Qc : Array Value → State → Outcome → State → Prop} {As st0 : List Value}
theorem fcPre_at (C : fCx D adr cs N p s m args meth c cc nL ret own ws) (hP : va_P D vwCl (fwl adr N (fG adr cs t)) H) (hS : va_S (faN adr N) s.heap H locs) (av : List Value) : ∀ U : State, U.heap = H → s.WarmedH U.vm → fcPre D adr cs N t av av.toArray U := by
  obtain ⟨-, -, -, hK, hN, hI, hZ⟩ := C
  intro U hU hW
  exact ⟨rfl, by rw [hU]; exact hP, va_K.moved hW.alike hK, fnests_warm hW hN, hI, by rw [hU]; exact fst0_moved hW.alike (fst0_kept hS.2.1 hZ)⟩
/-- a call of a method of an object of the world -/
theorem fr_runV (C : fCx D adr cs N p s m args meth c cc nL ret own ws) (hM : Met l y wsc rm (fcPre D adr cs N t (.ref (adr k) :: As)) Qc 0 0 (faN adr N)) (hP : va_P D vwCl (fwl adr N (fG adr cs t)) H) (hS : va_S (faN adr N) s.heap H locs) {Cn : String} {ci NN : Nat} {T : u_T} {fs : List Value} (hk : k < N) (hG : fG adr cs t k = .inr (ci, fs)) (hc : vwCl[ci]? = some (Cn, T, NN))
    (hT : GoodIn ws (wsV own index Cn y wsc)) (hw : wsc = Cond.code y bytes maxL ret2 :: ws') (hrc : rm.cells = 0) (hrs : rm.slots = 0) (hd : y.cls = Cn ∧ y.cls ≠ "java/lang/invoke/MethodHandle" ∧ y.cls ≠ "java/lang/invoke/VarHandle" ∧ (parseMethodDescriptor y.desc).map (fun d => d.parameters.length) = some n) (hR : rm.frames + 1 ≤ R.frames ∧ 8 + (maxL + 11) + rm.locals ≤ R.locals)
    (hn : As.length = n) (hl : ls.size = nL) (hst : st0 = As.reverse ++ .ref (adr k) :: rest) (hroom : (rest.map fun v => v.category).sum ≤ 8) (hdg : decode cc pc = .ok (.invokevirtual index, 3)) :
    va_Run p l e R s m args below meth c H locs 0 0 0 0 (F0 m pc ls st0) rest (Qc (Value.ref (adr k) :: As).toArray) (faN adr N) := by
  have hK := C.2.2.2.1
  have hts := C.1.2.2.2.2
  exact va_runV (C := Cn) (b := adr k) (As := As) (rest := rest) C.1 hM (cwV n hts hT hw hrc hrs hd hR) ⟨fcPre_blind, va_recv (q := (Cn, T, NN)) (ci := ci) (q0 := k) (fs := fs) hK hP hc (by rw [fwl_get hk, hG]), fcPre_at C hP hS (.ref (adr k) :: As)⟩ rfl hn hl hst (lv_room hroom) hdg ⟨Nat.zero_le _, Nat.zero_le _⟩
theorem fr_runS (C : fCx D adr cs N p s m args meth c cc nL ret own ws) (hM : Met l y wsc rm (fcPre D adr cs N t As) Qc 0 0 (faN adr N)) (hP : va_P D vwCl (fwl adr N (fG adr cs t)) H) (hS : va_S (faN adr N) s.heap H locs)
    (hT : GoodIn ws (va_wsS own index y wsc)) (hw : wsc = Cond.code y bytes maxL ret2 :: ws') (hrc : rm.cells = 0) (hrs : rm.slots = 0) (hd : y.cls ≠ "java/lang/invoke/MethodHandle" ∧ y.cls ≠ "java/lang/invoke/VarHandle" ∧ (parseMethodDescriptor y.desc).map (fun d => d.parameters.length) = some n) (hR : rm.frames + 1 ≤ R.frames ∧ 8 + (maxL + 11) + rm.locals ≤ R.locals)
    (hn : As.length = n) (hl : ls.size = nL) (hst : st0 = As.reverse ++ rest) (hroom : (rest.map fun v => v.category).sum ≤ 8) (hdg : decode cc pc = .ok (.invokestatic index, 3)) :
    va_Run p l e R s m args below meth c H locs 0 0 0 0 (F0 m pc ls st0) rest (Qc As.toArray) (faN adr N) := by
  have hts := C.1.2.2.2.2
  exact va_runS (As := As) (rest := rest) C.1 hM (va_cwS n hts hT hw hrc hrs hd hR) ⟨fcPre_blind, fcPre_at C hP hS As⟩ rfl hn hl hst (lv_room hroom) hdg ⟨Nat.zero_le _, Nat.zero_le _⟩
theorem fr_runN (C : fCx D adr cs N p s m args meth c cc nL ret own ws) (hM : Met l y wsc rm (fcPre D adr cs N t As) Qc 0 0 (faN adr N)) (hP : va_P D vwCl (fwl adr N (fG adr cs t)) H) (hS : va_S (faN adr N) s.heap H locs)
    (hlink : (own, index, y) ∈ fnM) (hT : GoodIn ws wsc) (hw : wsc = Cond.code y bytes maxL ret2 :: ws') (hrc : rm.cells = 0) (hrs : rm.slots = 0) (hini : Cond.initialized y.cls ∈ ws) (hstat : Cond.static y ∈ ws) (hd : y.cls ≠ "java/lang/invoke/MethodHandle" ∧ y.cls ≠ "java/lang/invoke/VarHandle" ∧ (parseMethodDescriptor y.desc).map (fun d => d.parameters.length) = some n) (hR : rm.frames + 1 ≤ R.frames ∧ 8 + (maxL + 11) + rm.locals ≤ R.locals)
    (hn : As.length = n) (hl : ls.size = nL) (hst : st0 = As.reverse ++ rest) (hroom : (rest.map fun v => v.category).sum ≤ 8) (hdg : decode cc pc = .ok (.invokestatic index, 3)) :
    va_Run p l e R s m args below meth c H locs 0 0 0 0 (F0 m pc ls st0) rest (Qc As.toArray) (faN adr N) := by
  have hts := C.1.2.2.2.2
  have hN := C.2.2.2.2.1
  exact va_runSN (As := As) (rest := rest) (host := RX4) C.1 hM ⟨va_cnB n hts hT hw hrc hrs (hN.2 _ hlink) (hts _ hini) hd hR, hts _ hstat, trivial⟩ ⟨fcPre_blind, fcPre_at C hP hS As⟩ rfl hn hl hst (lv_room hroom) hdg ⟨Nat.zero_le _, Nat.zero_le _⟩
theorem fr_ci {a : Array Value} {post : Int32 → fcS → Prop} (hr : va_Run p l e R s m args below meth c H locs 0 0 0 0 (F0 m pc ls st0) rest (fQi D adr cs N post a) (faN adr N)) (hS : va_S (faN adr N) s.heap H locs)
    (kk : ∀ (r : Int32) (t : fcS) (H1 : Heap) (locs1 : List Loc), post r t → va_P D vwCl (fwl adr N (fG adr cs t)) H1 → va_S (faN adr N) s.heap H1 locs1 → W p l e R s m args below meth c H1 locs1 0 0 Q (F0 m (pc + 3) ls (.int r :: rest))) : W p l e R s m args below meth c H locs 0 0 Q (F0 m pc ls st0) :=
  va_calli hr hS (fun _ _ h => h) (fun _ h => h) (fun r u t H1 locs1 ht _ hp hB _ _ hS1 => kk r u H1 locs1 hp (by rw [← ht]; exact hB) hS1)
theorem fr_cl {a : Array Value} {post : Int64 → fcS → Prop} (hr : va_Run p l e R s m args below meth c H locs 0 0 0 0 (F0 m pc ls st0) rest (fQl D adr cs N post a) (faN adr N)) (hS : va_S (faN adr N) s.heap H locs)
    (kk : ∀ (r : Int64) (t : fcS) (H1 : Heap) (locs1 : List Loc), post r t → va_P D vwCl (fwl adr N (fG adr cs t)) H1 → va_S (faN adr N) s.heap H1 locs1 → W p l e R s m args below meth c H1 locs1 0 0 Q (F0 m (pc + 3) ls (.long r :: rest))) : W p l e R s m args below meth c H locs 0 0 Q (F0 m pc ls st0) :=
  va_calll hr hS (fun _ _ h => h) (fun _ h => h) (fun r u t H1 locs1 ht _ hp hB _ _ hS1 => kk r u H1 locs1 hp (by rw [← ht]; exact hB) hS1)
theorem fr_cv {a : Array Value} {post : fcS → Prop} (hr : va_Run p l e R s m args below meth c H locs 0 0 0 0 (F0 m pc ls st0) rest (fQv D adr cs N post a) (faN adr N)) (hS : va_S (faN adr N) s.heap H locs)
    (kk : ∀ (t : fcS) (H1 : Heap) (locs1 : List Loc), post t → va_P D vwCl (fwl adr N (fG adr cs t)) H1 → va_S (faN adr N) s.heap H1 locs1 → W p l e R s m args below meth c H1 locs1 0 0 Q (F0 m (pc + 3) ls rest)) : W p l e R s m args below meth c H locs 0 0 Q (F0 m pc ls st0) :=
  va_callv hr hS (fun _ _ h => h) (fun _ h => h) (fun u t H1 locs1 ht _ hp hB _ _ hS1 => kk u H1 locs1 hp (by rw [← ht]; exact hB) hS1)
theorem fr_cq {a : Array Value} {post : Option Nat → fcS → Prop} (hr : va_Run p l e R s m args below meth c H locs 0 0 0 0 (F0 m pc ls st0) rest (fQq D adr cs N post a) (faN adr N)) (hS : va_S (faN adr N) s.heap H locs)
    (kn : ∀ (t : fcS) (H1 : Heap) (locs1 : List Loc), post none t → va_P D vwCl (fwl adr N (fG adr cs t)) H1 → va_S (faN adr N) s.heap H1 locs1 → W p l e R s m args below meth c H1 locs1 0 0 Q (F0 m (pc + 3) ls (.null :: rest)))
    (kk : ∀ (i : Nat) (t : fcS) (H1 : Heap) (locs1 : List Loc), post (some i) t → va_P D vwCl (fwl adr N (fG adr cs t)) H1 → va_S (faN adr N) s.heap H1 locs1 → W p l e R s m args below meth c H1 locs1 0 0 Q (F0 m (pc + 3) ls (.ref (adr i) :: rest))) : W p l e R s m args below meth c H locs 0 0 Q (F0 m pc ls st0) :=
  va_callq hr hS (fun _ _ h => h) (fun _ h => h) (fun r u t H1 locs1 ht _ hp hB _ _ hS1 => by
    obtain ⟨i, hi, hp⟩ := hp
    subst hi
    cases i with
    | none => exact kn u H1 locs1 hp (by rw [← ht]; exact hB) hS1
    | some i => exact kk i u H1 locs1 hp (by rw [← ht]; exact hB) hS1)
end FC
