/-! the words of nest mates -/
def fnF : List (String × Nat × String × String × String) := [(RX2, 38, RX3, "p", "I"), (RX1, 67, RX3, "p", "I"), (RX0, 53, RX3, "p", "I"), (RX4, 91, RX3, "p", "I"), (RX4, 60, RX2, "size", "I"), (RX4, 77, RX2, "units", "I"), (RX4, 63, RX2, "divisor", "I"), (RX4, 231, RX1, "list", "LFieldCounts$ClassList;"), (RX4, 243, RX1, "share", "[I"), (RX4, 235, RX1, "shareKnown", "Z"), (RX4, 134, RX1, "kind", "I"), (RX4, 137, RX1, "f", "I"), (RX4, 140, RX1, "t", "I"), (RX4, 143, RX1, "degree", "I"), (RX4, 145, RX1, "genus", "I"), (RX4, 148, RX1, "polynomial", "I")]
def fnM : List (String × Nat × MethodName) := [(RX2, 64, yX4_put), (RX2, 60, yX4_at), (RX1, 81, yX4_put), (RX1, 88, yX4_at), (RX0, 49, yX4_at), (RX4, 9, yX3_init)]
def fnests (U : State) : Prop := (∀ q ∈ fnF, va_Nw (.fieldLinkNest q.1 q.2.1 q.2.2.1 q.2.2.2.1 q.2.2.2.2 RX4) U) ∧ ∀ q ∈ fnM, va_Nw (.methodLinkNest q.1 q.2.1 q.2.2 RX4) U
theorem fnests_warm {s U : State} (hW : s.WarmedH U.vm) (h : fnests s) : fnests U := ⟨fun q hq => va_Nw.warmF hW (h.1 q hq), fun q hq => va_Nw.warmM hW (h.2 q hq)⟩
theorem fnests_same {u U : State} (e : u.vm = U.vm) (h : fnests u) : fnests U := ⟨fun q hq => va_Nw.same rfl e (h.1 q hq), fun q hq => va_Nw.same rfl e (h.2 q hq)⟩
/-! the two static rows: where they are stands behind the world's numbers -/
def fPR : Nat → Int32 := fun j => if j = 0 then 3 else if j = 1 then 5 else if j = 2 then 7 else if j = 3 then 11 else 13
def fTR : Nat → Int32 := fun j => if j = 0 then 1 else if j = 1 then 11 else 111
def fst0 (adr : Nat → Nat) (N : Nat) (U : State) (H : Heap) : Prop :=
  (va_Z RX4 "PRIMES" "[I" (.ref (adr 100)) (faN adr N) U H ∧ va_T .int (adr 100) 5 (fun j => .int (fPR j)) (faN adr N) U H) ∧ va_Z RX4 "TRACES" "[I" (.ref (adr 101)) (faN adr N) U H ∧ va_T .int (adr 101) 3 (fun j => .int (fTR j)) (faN adr N) U H
theorem fst0_moved {adr : Nat → Nat} {N : Nat} {u U : State} {H : Heap} (hvm : u.vm.Alike U.vm) (h : fst0 adr N u H) : fst0 adr N U H := ⟨⟨h.1.1.moved hvm, h.1.2.moved hvm⟩, h.2.1.moved hvm, h.2.2.moved hvm⟩
theorem fst0_kept {adr : Nat → Nat} {N : Nat} {U : State} {H H1 : Heap} (hq : ∀ a : Nat, a < H.size → ¬ faN adr N a → H1[a]? = H[a]?) (h : fst0 adr N U H) : fst0 adr N U H1 := ⟨⟨h.1.1.kept hq, h.1.2.kept hq⟩, h.2.1.kept hq, h.2.2.kept hq⟩
/-! what a method stands on -/
def fCx (D : va_G) (adr : Nat → Nat) (cs : Nat → ClassId) (N : Nat) (p : Program) (s : State) (m : MethodId) (args : Array Value) (meth : Method) (c : Code) (cc : ByteArray) (nL : Nat) (ret : Option FieldType) (own : String) (ws : List Cond) : Prop :=
  CallFix p m c cc nL s args ws own ∧ meth.sig.returnType = ret ∧ meth.locks = false ∧ va_K D vwCl (ftys cs) s ∧ fnests s ∧ finj adr N ∧ fst0 adr N s s.heap
def fcPre (D : va_G) (adr : Nat → Nat) (cs : Nat → ClassId) (N : Nat) (t : fcS) (av : List Value) : Array Value → State → Prop :=
  va_Pc av (fun U => va_P D vwCl (fwl adr N (fG adr cs t)) U.heap ∧ va_K D vwCl (ftys cs) U ∧ fnests U ∧ finj adr N ∧ fst0 adr N U U.heap)
abbrev fcB (D : va_G) (adr : Nat → Nat) (cs : Nat → ClassId) (N : Nat) : fcS → State → Prop := fun t U => va_P D vwCl (fwl adr N (fG adr cs t)) U.heap
abbrev fQi (D : va_G) (adr : Nat → Nat) (cs : Nat → ClassId) (N : Nat) (post : Int32 → fcS → Prop) := va_Qi post (fcB D adr cs N) (faN adr N)
abbrev fQl (D : va_G) (adr : Nat → Nat) (cs : Nat → ClassId) (N : Nat) (post : Int64 → fcS → Prop) := va_Ql post (fcB D adr cs N) (faN adr N)
abbrev fQv (D : va_G) (adr : Nat → Nat) (cs : Nat → ClassId) (N : Nat) (post : fcS → Prop) := va_Qv post (fcB D adr cs N) (faN adr N)
/-- an answer that is a cell of the world, or none: by its number -/
abbrev fQq (D : va_G) (adr : Nat → Nat) (cs : Nat → ClassId) (N : Nat) (post : Option Nat → fcS → Prop) := va_Qq (fun r t => ∃ i : Option Nat, r = i.map adr ∧ post i t) (fcB D adr cs N) (faN adr N)
theorem fcPre_blind {D : va_G} {adr : Nat → Nat} {cs : Nat → ClassId} {N : Nat} {t : fcS} {av : List Value} : FrameBlind (fcPre D adr cs N t av) := by
  intro a U g mk h
  obtain ⟨h0, h1, h2, h3, h4, h5⟩ := h
  exact ⟨h0, h1, va_K.moved (u := U) (U := U.calling g mk a) (Vm.Alike.refl U.vm) h2, fnests_same (u := U) (U := U.calling g mk a) rfl h3, h4, fst0_moved (u := U) (U := U.calling g mk a) (Vm.Alike.refl U.vm) h5⟩
section FR
variable {D : va_G} {adr : Nat → Nat} {cs : Nat → ClassId} {N : Nat} {p : Program} {l : Launch} {e : Env} {R : Room} {s : State} {m : MethodId} {args : Array Value} {below : List Frame} {meth : Method} {c : Code} {H : Heap} {locs : List Loc} {Q : State → Prop}
variable {cc : ByteArray} {nL : Nat} {ret : Option FieldType} {own : String} {ws : List Cond} {pc : Nat} {ls : Array Slot} {rest : List Value} {t : fcS} {k : Nat}
theorem f_enter {y : MethodName} {ws' : List Cond} {rm : Room} {Qc : Array Value → State → Outcome → State → Prop} {av : List Value} {lv : List (Nat × Value)} (hy : plainName y.cls = true) (hw : ws = Cond.code y cc nL ret :: ws') (hn : (lg_sl av).length ≤ nL) (hl : lv_args 0 av = lv) (ho : y.cls = own)
    (body : ∀ (p : Program) (e : Env) (s : State) (m : MethodId) (below : List Frame) (meth : Method) (c : Code) (ls : Array Slot), fCx D adr cs N p s m av.toArray meth c cc nL ret own ws → va_P D vwCl (fwl adr N (fG adr cs t)) s.heap → va_S (faN adr N) s.heap s.heap [] → lv_has ls nL lv →
      W p l e rm s m av.toArray below meth c s.heap [] 0 0 (MQ below Qc av.toArray s 0 0 (faN adr N)) (F0 m 0 ls [])) : Met l y ws rm (fcPre D adr cs N t av) Qc 0 0 (faN adr N) := by
  refine Met.ofW (cc := cc) (maxL := nL) (ret := ret) hy hw ?_
  intro p e s m args below meth c s₁ B hml hv
  obtain ⟨rfl, hP, hK, hN, hI, hZ⟩ := hv
  have hown : s.vm.findClass y.cls = some m.cls := findClass_of_methodNamed B.named
  have hE := lv_entry av (n := nL) hn
  rw [lg_entry_eq]
  rw [hl] at hE
  subst ho
  exact body p e s m below meth c _ ⟨⟨B.exec, B.bytes, hml, hown, atoms_spec (ws := ws) B.pre⟩, B.returns, B.notSynchronized, hK, hN, hI, hZ⟩ hP va_S.rf hE
/-- a field is read -/
theorem fr_get (C : fCx D adr cs N p s m args meth c cc nL ret own ws) {ci j NN index : Nat} {Cn ref : String} {T : u_T} {fs : List Value} {v : Value} (hP : va_P D vwCl (fwl adr N (fG adr cs t)) H) (hk : k < N) (hG : fG adr cs t k = .inr (ci, fs)) (hc : vwCl[ci]? = some (Cn, T, NN)) (hin : ∀ w ∈ u_ws Cn T NN, w ∈ ws) (hj : j < NN) (hr : (T j).1 = ref)
    (hlink : Cond.fieldLink own index ref (T j).2.1 (T j).2.2.1 ∈ ws) (hv : fs[j]? = some v) (hdg : decode cc pc = .ok (.getfield index, 3))
    (kk : W p l e R s m args below meth c H locs 0 0 Q (F0 m (pc + 3) ls (v :: rest))) : W p l e R s m args below meth c H locs 0 0 Q (F0 m pc ls (.ref (adr k) :: rest)) := by
  obtain ⟨⟨hx, hb, hml, hown, hts⟩, hr', hlk, hK, hN, hI, hZ⟩ := C
  exact va_get hx hb hts hin hown hK hP k (by rw [fwl_get hk, hG]) hc j hj (hts _ hlink) (fun _ h9 => by rw [← hr]; exact h9) hv hdg kk
theorem fr_getN (C : fCx D adr cs N p s m args meth c cc nL ret own ws) {ci j NN index : Nat} {Cn ref : String} {T : u_T} {fs : List Value} {v : Value} (hP : va_P D vwCl (fwl adr N (fG adr cs t)) H) (hk : k < N) (hG : fG adr cs t k = .inr (ci, fs)) (hc : vwCl[ci]? = some (Cn, T, NN)) (hin : ∀ w ∈ u_ws Cn T NN, w ∈ ws) (hj : j < NN) (hr : (T j).1 = ref)
    (hlink : (own, index, ref, (T j).2.1, (T j).2.2.1) ∈ fnF) (hv : fs[j]? = some v) (hdg : decode cc pc = .ok (.getfield index, 3))
    (kk : W p l e R s m args below meth c H locs 0 0 Q (F0 m (pc + 3) ls (v :: rest))) : W p l e R s m args below meth c H locs 0 0 Q (F0 m pc ls (.ref (adr k) :: rest)) := by
  obtain ⟨⟨hx, hb, hml, hown, hts⟩, hr', hlk, hK, hN, hI, hZ⟩ := C
  exact va_getN hx hb hts hin hown hK hP k (by rw [fwl_get hk, hG]) hc j hj (va_Nw.use rfl (hN.1 _ hlink)) (fun _ h9 => by rw [← hr]; exact h9) hv hdg kk
/-- a field is written -/
theorem fr_put (C : fCx D adr cs N p s m args meth c cc nL ret own ws) (t' : fcS) {ci j NN index : Nat} {Cn ref : String} {T : u_T} {fs : List Value} {v : Value} {ty : FieldType} {ty0 : Nat → FieldType} (hP : va_P D vwCl (fwl adr N (fG adr cs t)) H) (hS : va_S (faN adr N) s.heap H locs) (hk : k < N) (hG : fG adr cs t k = .inr (ci, fs)) (hc : vwCl[ci]? = some (Cn, T, NN)) (hin : ∀ w ∈ u_ws Cn T NN, w ∈ ws)
    (hty : ∀ k, k < NN → parseFieldDescriptor (T k).2.2.1 = some (ty0 k)) (hnm : ∀ a, a < NN → ∀ b, b < NN → a ≠ b → (T a).2.1 ≠ (T b).2.1) (hj : j < NN) (hr : (T j).1 = ref)
    (hlink : Cond.fieldLink own index ref (T j).2.1 (T j).2.2.1 ∈ ws) (hfin : (T j).2.2.2 = false) (hd : parseFieldDescriptor (T j).2.2.1 = some ty) (hn : narrow ty v = v) (hfit : fits ty v = true) (hlen : j < fs.length)
    (hG' : fG adr cs t' k = .inr (ci, fs.set j v)) (hne : ∀ a, a ≠ k → fG adr cs t' a = fG adr cs t a) (hdg : decode cc pc = .ok (.putfield index, 3))
    (kk : ∀ (H1 : Heap) (locs1 : List Loc), va_P D vwCl (fwl adr N (fG adr cs t')) H1 → va_S (faN adr N) s.heap H1 locs1 → W p l e R s m args below meth c H1 locs1 0 0 Q (F0 m (pc + 3) ls rest)) : W p l e R s m args below meth c H locs 0 0 Q (F0 m pc ls (v :: .ref (adr k) :: rest)) := by
  obtain ⟨⟨hx, hb, hml, hown, hts⟩, hr', hlk, hK, hN, hI, hZ⟩ := C
  refine va_put hx hb hts hin ty0 hty hnm hown hK hP (fwl_D _ hI) hS k (by rw [fwl_get hk, hG]) hc j hj (hts _ hlink) (fun _ h9 => by rw [← hr]; exact h9) hfin hd hn hfit hlen hdg (fun H1 locs1 hP1 hD1 hS1 => ?_)
  rw [fwl_set hG' hne] at hP1
  exact kk H1 locs1 hP1 hS1
/-- a place of an int row is read -/
theorem fr_iald (C : fCx D adr cs N p s m args meth c cc nL ret own ws) {n : Nat} {i : Int32} (hP : va_P D vwCl (fwl adr N (fG adr cs t)) H) (hk : k < N) (hG : fG adr cs t k = .inl (cs 0, n, .inl (fga t k))) (hin : vp_in i n) (hdg : decode cc pc = .ok (.iaload, 1))
    (kk : W p l e R s m args below meth c H locs 0 0 Q (F0 m (pc + 1) ls (.int (fga t k i.toNatClampNeg) :: rest))) : W p l e R s m args below meth c H locs 0 0 Q (F0 m pc ls (.int i :: .ref (adr k) :: rest)) := by
  obtain ⟨⟨hx, hb, hml, hown, hts⟩, hr', hlk, hK, hN, hI, hZ⟩ := C
  exact va_iald hx hb hK hP k 0 (by rw [fwl_get hk, hG]) rfl hin hdg kk
theorem fr_lald (C : fCx D adr cs N p s m args meth c cc nL ret own ws) {n : Nat} {i : Int32} (hP : va_P D vwCl (fwl adr N (fG adr cs t)) H) (hk : k < N) (hG : fG adr cs t k = .inl (cs 1, n, .inr (.inl (fgl t k)))) (hin : vp_in i n) (hdg : decode cc pc = .ok (.laload, 1))
    (kk : W p l e R s m args below meth c H locs 0 0 Q (F0 m (pc + 1) ls (.long (fgl t k i.toNatClampNeg) :: rest))) : W p l e R s m args below meth c H locs 0 0 Q (F0 m pc ls (.int i :: .ref (adr k) :: rest)) := by
  obtain ⟨⟨hx, hb, hml, hown, hts⟩, hr', hlk, hK, hN, hI, hZ⟩ := C
  exact va_lald hx hb hK hP k 1 (by rw [fwl_get hk, hG]) rfl hin hdg kk
theorem fr_iast (C : fCx D adr cs N p s m args meth c cc nL ret own ws) {n : Nat} {i x : Int32} (hP : va_P D vwCl (fwl adr N (fG adr cs t)) H) (hS : va_S (faN adr N) s.heap H locs) (hk : k < N) (hG : ∀ u : fcS, fG adr cs u k = .inl (cs 0, n, .inl (fga u k))) (hin : vp_in i n) (hdg : decode cc pc = .ok (.iastore, 1))
    (kk : ∀ (H1 : Heap) (locs1 : List Loc), va_P D vwCl (fwl adr N (fG adr cs (fsa t k i.toNatClampNeg x))) H1 → va_S (faN adr N) s.heap H1 locs1 → W p l e R s m args below meth c H1 locs1 0 0 Q (F0 m (pc + 1) ls rest)) : W p l e R s m args below meth c H locs 0 0 Q (F0 m pc ls (.int x :: .int i :: .ref (adr k) :: rest)) := by
  obtain ⟨⟨hx, hb, hml, hown, hts⟩, hr', hlk, hK, hN, hI, hZ⟩ := C
  refine va_iast hx hb hK hP (fwl_D _ hI) hS k 0 (by rw [fwl_get hk, hG]) rfl hin hdg (fun H1 locs1 hP1 hD1 hS1 => ?_)
  rw [fwl_set (fS_row hG _ x) (fG_fsa_ne adr cs t k _ x)] at hP1
  exact kk H1 locs1 hP1 hS1
theorem fr_last (C : fCx D adr cs N p s m args meth c cc nL ret own ws) {n : Nat} {i : Int32} {x : Int64} (hP : va_P D vwCl (fwl adr N (fG adr cs t)) H) (hS : va_S (faN adr N) s.heap H locs) (hk : k < N) (hG : ∀ u : fcS, fG adr cs u k = .inl (cs 1, n, .inr (.inl (fgl u k)))) (hin : vp_in i n) (hdg : decode cc pc = .ok (.lastore, 1))
    (kk : ∀ (H1 : Heap) (locs1 : List Loc), va_P D vwCl (fwl adr N (fG adr cs (fsl t k i.toNatClampNeg x))) H1 → va_S (faN adr N) s.heap H1 locs1 → W p l e R s m args below meth c H1 locs1 0 0 Q (F0 m (pc + 1) ls rest)) : W p l e R s m args below meth c H locs 0 0 Q (F0 m pc ls (.long x :: .int i :: .ref (adr k) :: rest)) := by
  obtain ⟨⟨hx, hb, hml, hown, hts⟩, hr', hlk, hK, hN, hI, hZ⟩ := C
  refine va_last hx hb hK hP (fwl_D _ hI) hS k 1 (by rw [fwl_get hk, hG]) rfl hin hdg (fun H1 locs1 hP1 hD1 hS1 => ?_)
  rw [fwl_set (fS_rowL hG _ x) (fG_fsl_ne adr cs t k _ x)] at hP1
  exact kk H1 locs1 hP1 hS1
theorem fr_alen (C : fCx D adr cs N p s m args meth c cc nL ret own ws) {q : Nat} {y : vp_A} {ty : FieldType} {v : Int32} {cA : ClassId} (hP : va_P D vwCl (fwl adr N (fG adr cs t)) H) (hk : k < N) (hG : fG adr cs t k = .inl (cA, y)) (ht : (ftys cs)[q]? = some (cA, ty)) (hv : Int32.ofNat y.1 = v) (hdg : decode cc pc = .ok (.arraylength, 1))
    (kk : W p l e R s m args below meth c H locs 0 0 Q (F0 m (pc + 1) ls (.int v :: rest))) : W p l e R s m args below meth c H locs 0 0 Q (F0 m pc ls (.ref (adr k) :: rest)) := by
  obtain ⟨⟨hx, hb, hml, hown, hts⟩, hr', hlk, hK, hN, hI, hZ⟩ := C
  exact va_alen hx hb hK hP k q (by rw [fwl_get hk, hG]) ht hv hdg kk
theorem fr_aaldF (C : fCx D adr cs N p s m args meth c cc nL ret own ws) {i : Int32} (hP : va_P D vwCl (fwl adr N (fG adr cs t)) H) (hk : 2 < N) (hin : vp_in i 5) (hdg : decode cc pc = .ok (.aaload, 1))
    (kk : ∀ q : Nat, q = 6 + 3 * i.toNatClampNeg → fisF q → W p l e R s m args below meth c H locs 0 0 Q (F0 m (pc + 1) ls (.ref (adr q) :: rest))) : W p l e R s m args below meth c H locs 0 0 Q (F0 m pc ls (.int i :: .ref (adr 2) :: rest)) := by
  obtain ⟨⟨hx, hb, hml, hown, hts⟩, hr', hlk, hK, hN, hI, hZ⟩ := C
  have hlt : i.toNatClampNeg < 5 := Nat.not_le.mp fun q => hin (Or.inr q)
  have e1 : va_rf (frF adr i.toNatClampNeg) = .ref (adr (6 + 3 * i.toNatClampNeg)) := by simp [frF, hlt, va_rf]
  have e2 := va_aldq (C := "FieldCounts$Field") (rest := rest) (p := p) (l := l) (e := e) (R := R) (s := s) (m := m) (args := args) (below := below) (meth := meth) (c := c) (H := H) (locs := locs) (cells := 0) (slots := 0) (Q := Q) (pc := pc) (ls := ls) hx hb hK hP 2 3 (by rw [fwl_get hk, fG_2]) rfl hin hdg
  rw [e1] at e2
  exact e2 (kk _ rfl ⟨by omega, by omega, by omega⟩)
theorem fr_aaldC (C : fCx D adr cs N p s m args meth c cc nL ret own ws) {i : Int32} (hP : va_P D vwCl (fwl adr N (fG adr cs t)) H) (hk : 3 < N) (hin : vp_in i 8) (hdg : decode cc pc = .ok (.aaload, 1))
    (kk : ∀ q : Nat, q = 21 + 4 * i.toNatClampNeg → fisC q → W p l e R s m args below meth c H locs 0 0 Q (F0 m (pc + 1) ls (.ref (adr q) :: rest))) : W p l e R s m args below meth c H locs 0 0 Q (F0 m pc ls (.int i :: .ref (adr 3) :: rest)) := by
  obtain ⟨⟨hx, hb, hml, hown, hts⟩, hr', hlk, hK, hN, hI, hZ⟩ := C
  have hlt : i.toNatClampNeg < 8 := Nat.not_le.mp fun q => hin (Or.inr q)
  have e1 : va_rf (frC adr i.toNatClampNeg) = .ref (adr (21 + 4 * i.toNatClampNeg)) := by simp [frC, hlt, va_rf]
  have e2 := va_aldq (C := "FieldCounts$Curve") (rest := rest) (p := p) (l := l) (e := e) (R := R) (s := s) (m := m) (args := args) (below := below) (meth := meth) (c := c) (H := H) (locs := locs) (cells := 0) (slots := 0) (Q := Q) (pc := pc) (ls := ls) hx hb hK hP 3 2 (by rw [fwl_get hk, fG_3]) rfl hin hdg
  rw [e1] at e2
  exact e2 (kk _ rfl ⟨by omega, by omega, by omega⟩)
/-- ends -/
theorem fr_iret (C : fCx D adr cs N p s m args meth c cc nL (some .int) own ws) {post : Int32 → fcS → Prop} {v : Int32} (hP : va_P D vwCl (fwl adr N (fG adr cs t)) H) (hS : va_S (faN adr N) s.heap H locs) (h : post v t) (hdg : decode cc pc = .ok (.ireturn, 1)) : W p l e R s m args below meth c H locs 0 0 (MQ below (fQi D adr cs N post) args s 0 0 (faN adr N)) (F0 m pc ls [.int v]) := by
  obtain ⟨⟨hx, hb, hml, hown, hts⟩, hr', hlk, hK, hN, hI, hZ⟩ := C
  exact W.iret (v := v) hx hb hr' (fun t2 ht hW => ⟨⟨v, t, rfl, h, by rw [fcB, ht]; exact hP⟩, hS.F ht⟩) hS.2.2 hdg hlk
theorem fr_zret (C : fCx D adr cs N p s m args meth c cc nL (some .boolean) own ws) {post : Int32 → fcS → Prop} {v : Int32} (hP : va_P D vwCl (fwl adr N (fG adr cs t)) H) (hS : va_S (faN adr N) s.heap H locs) (hv : narrow .boolean (.int v) = .int v) (h : post v t) (hdg : decode cc pc = .ok (.ireturn, 1)) : W p l e R s m args below meth c H locs 0 0 (MQ below (fQi D adr cs N post) args s 0 0 (faN adr N)) (F0 m pc ls [.int v]) := by
  obtain ⟨⟨hx, hb, hml, hown, hts⟩, hr', hlk, hK, hN, hI, hZ⟩ := C
  exact W.zret (v := v) hx hb hr' hv (fun t2 ht hW => ⟨⟨v, t, rfl, h, by rw [fcB, ht]; exact hP⟩, hS.F ht⟩) hS.2.2 hdg hlk
theorem fr_lret (C : fCx D adr cs N p s m args meth c cc nL (some .long) own ws) {post : Int64 → fcS → Prop} {v : Int64} (hP : va_P D vwCl (fwl adr N (fG adr cs t)) H) (hS : va_S (faN adr N) s.heap H locs) (h : post v t) (hdg : decode cc pc = .ok (.lreturn, 1)) : W p l e R s m args below meth c H locs 0 0 (MQ below (fQl D adr cs N post) args s 0 0 (faN adr N)) (F0 m pc ls [.long v]) := by
  obtain ⟨⟨hx, hb, hml, hown, hts⟩, hr', hlk, hK, hN, hI, hZ⟩ := C
  exact W.lret (v := v) hx hb hr' (fun t2 ht hW => ⟨⟨v, t, rfl, h, by rw [fcB, ht]; exact hP⟩, hS.F ht⟩) hS.2.2 hdg hlk
theorem fr_vret (C : fCx D adr cs N p s m args meth c cc nL none own ws) {post : fcS → Prop} (hP : va_P D vwCl (fwl adr N (fG adr cs t)) H) (hS : va_S (faN adr N) s.heap H locs) (h : post t) (hdg : decode cc pc = .ok (.return_, 1)) : W p l e R s m args below meth c H locs 0 0 (MQ below (fQv D adr cs N post) args s 0 0 (faN adr N)) (F0 m pc ls []) := by
  obtain ⟨⟨hx, hb, hml, hown, hts⟩, hr', hlk, hK, hN, hI, hZ⟩ := C
  exact W.vret hx hb hr' (fun t2 ht hW => ⟨⟨t, rfl, h, by rw [fcB, ht]; exact hP⟩, hS.F ht⟩) hS.2.2 hdg hlk
theorem fr_aret {rt : FieldType} (C : fCx D adr cs N p s m args meth c cc nL (some rt) own ws) {post : Option Nat → fcS → Prop} (i : Option Nat) {v : Value} (hrt : (∃ n, rt = .object n) ∨ ∃ t, rt = .array t) (hv : v = va_rf (i.map adr)) (hP : va_P D vwCl (fwl adr N (fG adr cs t)) H) (hS : va_S (faN adr N) s.heap H locs) (h : post i t) (hdg : decode cc pc = .ok (.areturn, 1)) : W p l e R s m args below meth c H locs 0 0 (MQ below (fQq D adr cs N post) args s 0 0 (faN adr N)) (F0 m pc ls [v]) := by
  obtain ⟨⟨hx, hb, hml, hown, hts⟩, hr', hlk, hK, hN, hI, hZ⟩ := C
  exact W.aret (v := v) hx hb hr' hrt (by rw [hv]; exact va_rf_or _) (fun t2 ht hW => ⟨⟨i.map adr, t, by rw [hv], ⟨i, rfl, h⟩, by rw [fcB, ht]; exact hP⟩, hS.F ht⟩) hS.2.2 hdg hlk
end FR
