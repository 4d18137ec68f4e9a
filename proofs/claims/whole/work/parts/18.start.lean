theorem fK_at {s : State} {b : Nat} (hts : ∀ w ∈ lw_tbl, w.before #[Value.ref b] s = true) : ∃ (D : va_G) (cs : Nat → ClassId), va_K D vwCl (ftys cs) s := by
  have ht : ∀ w ∈ wsL_law, w.before #[Value.ref b] s = true := fun w h => hts w (wsL_law_in w h)
  obtain ⟨c0, i0, h0⟩ := u_known (C := RX0) (T := TX0) (N := 5) (n := 5) ht inl_X0 (ht (.instantiable RX0 5) (by decide +kernel))
  obtain ⟨c1, i1, h1⟩ := u_known (C := RX1) (T := TX1) (N := 10) (n := 10) ht inl_X1 (ht (.instantiable RX1 10) (by decide +kernel))
  obtain ⟨c2, i2, h2⟩ := u_known (C := RX2) (T := TX2) (N := 8) (n := 8) ht inl_X2 (ht (.instantiable RX2 8) (by decide +kernel))
  obtain ⟨c3, i3, h3⟩ := u_known (C := RX3) (T := TX3) (N := 1) (n := 1) ht inl_X3 (ht (.instantiable RX3 1) (by decide +kernel))
  obtain ⟨c4, i4, h4⟩ := u_known (C := RX4) (T := TX4) (N := 10) (n := 10) ht inl_X4 (ht (.instantiable RX4 10) (by decide +kernel))
  obtain ⟨c5, i5, h5⟩ := u_known (C := RX5) (T := TX5) (N := 23) (n := 23) ht inl_X5 (ht (.instantiable RX5 23) (by decide +kernel))
  obtain ⟨aI, kI, pI, f1, f2, f3⟩ := Cond.arrayClass_spec (ht _ mw_1_20)
  obtain ⟨aJ, kJ, pJ, g1, g2, g3⟩ := Cond.arrayClass_spec (ht _ mw_1_22)
  obtain ⟨pC, aC, kC, u1, u2, u3, u4, u5⟩ := Cond.arrayOver_spec (hts _ fw_AOC)
  obtain ⟨pF, aF, kF, w1, w2, w3, w4, w5⟩ := Cond.arrayOver_spec (hts _ fw_AOF)
  refine ⟨(fun k => if k = 0 then c0 else if k = 1 then c1 else if k = 2 then c2 else if k = 3 then c3 else if k = 4 then c4 else c5, fun k => if k = 0 then i0 else if k = 1 then i1 else if k = 2 then i2 else if k = 3 then i3 else if k = 4 then i4 else i5), (fun k => if k = 0 then aI else if k = 1 then aJ else if k = 2 then aC else aF), ?_, ?_⟩
  · intro k q hq
    match k, hq with
    | 0, hq => cases hq; exact h0
    | 1, hq => cases hq; exact h1
    | 2, hq => cases hq; exact h2
    | 3, hq => cases hq; exact h3
    | 4, hq => cases hq; exact h4
    | 5, hq => cases hq; exact h5
    | k + 6, hq => simp [vwCl] at hq
  · intro k q hq
    match k, hq with
    | 0, hq => cases hq; exact ⟨fun n z => ⟨fun k h => (by cases h), kI, f2, pI, f3⟩, f1⟩
    | 1, hq => cases hq; exact ⟨fun n z => ⟨fun k h => (by cases h), kJ, g2, pJ, g3⟩, g1⟩
    | 2, hq => cases hq; exact ⟨fun n z => ⟨fun k h => (by cases h), kC, u3, pC, u4⟩, kC, pC, u3, u4, u1, u5⟩
    | 3, hq => cases hq; exact ⟨fun n z => ⟨fun k h => (by cases h), kF, w3, pF, w4⟩, kF, pF, w3, w4, w1, w5⟩
    | k + 4, hq => simp [ftys] at hq
set_option maxHeartbeats 4000000 in
set_option maxRecDepth 100000 in
theorem fst1_of {s : State} {b : Nat} (hts : ∀ w ∈ lw_tbl, w.before #[Value.ref b] s = true) (hgv : (Jvm.Cond.and given_1 narrow_1).before #[Value.ref b] s = true) : ∃ tP tT : Nat, fst1 tP tT (fun q => s.heap.size ≤ q) s s.heap := by
  have hs := flat_of_before _ hgv
  have hA : ∀ a : Nat, a < s.heap.size → ¬ (fun q : Nat => s.heap.size ≤ q) a := fun a h => Nat.not_le.mpr h
  have ini : (Cond.initialized RX4).before #[Value.ref b] s = true := hts _ (wsL_law_in _ mw_1_2)
  obtain ⟨tP, eP, hP⟩ := va_Tof (tm := .static "FieldCounts" "PRIMES" "[I") (ty := .int) (N := 5) (f := fun j => .int (fPR j)) (by decide) (hs (.arrayOf (.static "FieldCounts" "PRIMES" "[I") .int) (by decide +kernel)) (va_eqt (z := 5) (hs (.eq (.length (.static "FieldCounts" "PRIMES" "[I")) (.int 5)) (by decide +kernel))) (fun j hj => by
    rcases (show j = 0 ∨ j = 1 ∨ j = 2 ∨ j = 3 ∨ j = 4 by omega) with rfl | rfl | rfl | rfl | rfl
    · exact va_eqt (z := 3) (hs (.eq (.elem (.static "FieldCounts" "PRIMES" "[I") (.int 0)) (.int 3)) (by decide +kernel))
    · exact va_eqt (z := 5) (hs (.eq (.elem (.static "FieldCounts" "PRIMES" "[I") (.int 1)) (.int 5)) (by decide +kernel))
    · exact va_eqt (z := 7) (hs (.eq (.elem (.static "FieldCounts" "PRIMES" "[I") (.int 2)) (.int 7)) (by decide +kernel))
    · exact va_eqt (z := 11) (hs (.eq (.elem (.static "FieldCounts" "PRIMES" "[I") (.int 3)) (.int 11)) (by decide +kernel))
    · exact va_eqt (z := 13) (hs (.eq (.elem (.static "FieldCounts" "PRIMES" "[I") (.int 4)) (.int 13)) (by decide +kernel))) hA
  obtain ⟨tT, eT, hT⟩ := va_Tof (tm := .static "FieldCounts" "TRACES" "[I") (ty := .int) (N := 3) (f := fun j => .int (fTR j)) (by decide) (hs (.arrayOf (.static "FieldCounts" "TRACES" "[I") .int) (by decide +kernel)) (va_eqt (z := 3) (hs (.eq (.length (.static "FieldCounts" "TRACES" "[I")) (.int 3)) (by decide +kernel))) (fun j hj => by
    rcases (show j = 0 ∨ j = 1 ∨ j = 2 by omega) with rfl | rfl | rfl
    · exact va_eqt (z := 1) (hs (.eq (.elem (.static "FieldCounts" "TRACES" "[I") (.int 0)) (.int 1)) (by decide +kernel))
    · exact va_eqt (z := 11) (hs (.eq (.elem (.static "FieldCounts" "TRACES" "[I") (.int 1)) (.int 11)) (by decide +kernel))
    · exact va_eqt (z := 111) (hs (.eq (.elem (.static "FieldCounts" "TRACES" "[I") (.int 2)) (.int 111)) (by decide +kernel))) hA
  exact ⟨tP, tT, ⟨va_Zref (hts _ fw_lP) ini eP hA, hP⟩, va_Zref (hts _ fw_lT) ini eT hA, hT⟩
set_option maxHeartbeats 8000000 in
set_option maxRecDepth 100000 in
/-- the law from its entry, out of the pure statement -/
theorem whole_open {Inv : fcS → Prop} (hOK : fOK Inv) {p : Program} {e : Env} {s : State} {m : MethodId} {below : List Frame} {meth : Method} {c : Code} (l : Launch) {b L : Nat} {xs : Nat → Int32} (hL : L ≤ 2560) (C0 : lw_At p s m meth c b L xs) : W p l e room_1 s m #[Value.ref b] below meth c s.heap [] 0 0 (lw_Z below #[Value.ref b] s) (entryFrame m ([Value.ref b] : List Value).toArray 4) := by
  obtain ⟨hx, hb, hr, hml, hown, hts0, hX, hbl, hlocks, hgv⟩ := id C0
  have hts : ∀ w ∈ wsL_law, w.before #[Value.ref b] s = true := fun w h => hts0 w (wsL_law_in w h)
  have hb : c.code = cL_law := hb
  have hown : s.vm.findClass RL = some m.cls := hown
  obtain ⟨D, cs, hK⟩ := fK_at hts0
  obtain ⟨tP, tT, hZ⟩ := fst1_of hts0 hgv
  have hN : fnests s := fnests_of hts0
  have hAOF : va_AO "FieldCounts$Field" s := va_AO.of (hts0 _ fw_AOF)
  have hAOC : va_AO "FieldCounts$Curve" s := va_AO.of (hts0 _ fw_AOC)
  have hA : ∀ q : Nat, s.heap.size ≤ q → (fun q : Nat => s.heap.size ≤ q) q := fun _ h => h
  have hS : va_S (fun q : Nat => s.heap.size ≤ q) s.heap s.heap [] := va_S.rf
  have hP : va_P D vwCl [] s.heap := fun k q h => by simp at h
  have hD : va_D (fun q : Nat => s.heap.size ≤ q) [] := ⟨fun i j p q h => by simp at h, fun k q h => by simp at h⟩
  have hl := lv_entry ([.ref b]) (n := 4) (Nat.le_of_ble_eq_true rfl)
  rw [lg_entry_eq]
  generalize (lg_sl ([.ref b]) ++ List.replicate (4 - (lg_sl ([.ref b])).length) Slot.unset).toArray = ls at hl ⊢
  have hl : lv_has ls 4 [(0, .ref b)] := hl
  refine va_new (ci := 4) (fs := [.null, .null, .null, .null, .null, .int 0, .int 0, .int 0, .int 0, .long 0]) (C := RX4) (T := TX4) (N := 10) hx hb hts inl_X4 tyX4 tyX4_ok hown (hts _ mw_1_0) (hts _ mw_1_1) (hts _ mw_1_2) hK hP hD hS hA rfl (fun j hj => by rcases (show j = 0 ∨ j = 1 ∨ j = 2 ∨ j = 3 ∨ j = 4 ∨ j = 5 ∨ j = 6 ∨ j = 7 ∨ j = 8 ∨ j = 9 by omega) with rfl | rfl | rfl | rfl | rfl | rfl | rfl | rfl | rfl | rfl <;> rfl) (Nat.le_of_ble_eq_true rfl) (Nat.le_of_ble_eq_true rfl) dL_law_0 (fun q0 H hP hD hS => ?_)
  have hP : va_P D vwCl [(q0, .inr (4, [.null, .null, .null, .null, .null, .int 0, .int 0, .int 0, .int 0, .long 0]))] H := hP
  have hD : va_D (fun q : Nat => s.heap.size ≤ q) [(q0, .inr (4, [.null, .null, .null, .null, .null, .int 0, .int 0, .int 0, .int 0, .long 0]))] := hD
  refine lv_dup hx hb dL_law_3 rfl ?_
  have hFc := va_free (wc := [(q0, .inr (4, [.null, .null, .null, .null, .null, .int 0, .int 0, .int 0, .int 0, .long 0]))]) hD hS hA [0] rfl
  refine va_callv (va_runI (As := []) (rest := [.ref q0]) ⟨hx, hb, hml, hown, hts⟩ (c_X4_init l D cs q0 H.size tP tT _ hOK.1) (cwI 0 hts (fgN0 mw_1_8) rfl rfl rfl (hts _ mw_1_2) (hts _ mw_1_6) (hts _ mw_1_7) rfl (by decide +kernel) ⟨Nat.le_of_ble_eq_true rfl, Nat.le_of_ble_eq_true rfl⟩)
    ⟨fun a U g mk q => by
      obtain ⟨q0, q1, qP, qK, qD, qN, qF, qC, qZ⟩ := q
      exact ⟨q0, q1, qP, va_K.moved (u := U) (U := U.calling g mk a) (Vm.Alike.refl U.vm) qK, qD, fnests_same (u := U) (U := U.calling g mk a) rfl qN, va_AO.moved (u := U) (U := U.calling g mk a) (Vm.Alike.refl U.vm) qF, va_AO.moved (u := U) (U := U.calling g mk a) (Vm.Alike.refl U.vm) qC, fst1_moved (u := U) (U := U.calling g mk a) (Vm.Alike.refl U.vm) qZ⟩,
     fun U hU hW => ⟨rfl, by rw [hU], by rw [hU]; exact hP, va_K.moved hW.alike hK, hD.weaken (fun _ _ _ _ => trivial), fnests_warm hW hN, va_AO.moved hW.alike hAOF, va_AO.moved hW.alike hAOC, by
      rw [hU]
      have hZ1 := fst1_moved hW.alike (fst1_kept hS.2.1 hZ)
      exact ⟨⟨hZ1.1.1.narrow hFc, hZ1.1.2.narrow hFc⟩, hZ1.2.1.narrow hFc, hZ1.2.2.narrow hFc⟩⟩⟩ rfl rfl hl.1 rfl (lv_room (Nat.le_of_ble_eq_true rfl)) dL_law_4 ⟨Nat.le_of_ble_eq_true rfl, Nat.le_of_ble_eq_true rfl⟩) hS (fun q _ h => hFc q h) hFc (fun u t H1 locs ht hvm hw hB hz1 hk1 hS => ?_)
  obtain ⟨adr, t1⟩ := u
  obtain ⟨hP1, hD1, a0, aP, aT⟩ := hB
  rw [ht] at hP1
  dsimp only at hw hP1 hD1 a0 aP aT
  have hPa : va_P D vwCl (fwl adr 53 (fG adr cs t1)) H1 := hP1
  have hDa : va_D (fun q : Nat => s.heap.size ≤ q) (fwl adr 53 (fG adr cs t1)) := hD1.weaken (fun _ q _ h => hFc _ h)
  clear hP1 hD1 hk1 hFc hP hD
  subst a0
  subst aP
  subst aT
  refine lv_astore_n (lv' := [(1, .ref (adr 0)), (0, .ref b)]) hx hb dL_law_7 rfl hl (by decide) rfl (fun ls hl => ?_)
  refine va_new (ci := 5) (fs := [.int 0, .int 0, .int 0, .null, .null, .int 0, .int 0, .null, .null, .null, .null, .int 0, .long 0, .null, .null, .int 0, .int 0, .int 0, .null, .null, .null, .null, .null]) (C := RX5) (T := TX5) (N := 23) hx hb hts inl_X5 tyX5 tyX5_ok hown (hts _ mw_1_3) (hts _ mw_1_4) (hts _ mw_1_5) hK hPa hDa hS hA rfl (fun j hj => by rcases (show j = 0 ∨ j = 1 ∨ j = 2 ∨ j = 3 ∨ j = 4 ∨ j = 5 ∨ j = 6 ∨ j = 7 ∨ j = 8 ∨ j = 9 ∨ j = 10 ∨ j = 11 ∨ j = 12 ∨ j = 13 ∨ j = 14 ∨ j = 15 ∨ j = 16 ∨ j = 17 ∨ j = 18 ∨ j = 19 ∨ j = 20 ∨ j = 21 ∨ j = 22 by omega) with rfl | rfl | rfl | rfl | rfl | rfl | rfl | rfl | rfl | rfl | rfl | rfl | rfl | rfl | rfl | rfl | rfl | rfl | rfl | rfl | rfl | rfl | rfl <;> rfl) (Nat.le_of_ble_eq_true rfl) (Nat.le_of_ble_eq_true rfl) dL_law_8 (fun q1 H hP hD hS => ?_)
  refine lv_dup hx hb dL_law_11 rfl ?_
  generalize hws : (fwl adr 53 (fG adr cs t1) ++ [(q1, .inr (5, [.int 0, .int 0, .int 0, .null, .null, .int 0, .int 0, .null, .null, .null, .null, .int 0, .long 0, .null, .null, .int 0, .int 0, .int 0, .null, .null, .null, .null, .null]))]) = ws1 at hP hD
  have hFc : ∀ q, va_A ws1 H.size q → s.heap.size ≤ q := fun q h => by
    rcases h with ⟨k, e, h⟩ | h
    · exact hD.2 k _ h
    · exact Nat.le_trans hS.1 h
  have hM := c_X5_init l D cs adr t1 q1 H.size _ hw
  rw [hws] at hM
  refine va_callv (va_runI (As := []) (rest := [.ref q1]) ⟨hx, hb, hml, hown, hts⟩ hM (cwI 0 hts (fgN0 mw_7_3) rfl rfl rfl (hts _ mw_1_5) (hts _ mw_7_1) (hts _ mw_7_2) rfl (by decide +kernel) ⟨Nat.le_of_ble_eq_true rfl, Nat.le_of_ble_eq_true rfl⟩)
    ⟨fun a U g mk q => by
      obtain ⟨q0, q1, qP, qK, qD, qN, qZ⟩ := q
      exact ⟨q0, q1, qP, va_K.moved (u := U) (U := U.calling g mk a) (Vm.Alike.refl U.vm) qK, qD, fnests_same (u := U) (U := U.calling g mk a) rfl qN, fst1_moved (u := U) (U := U.calling g mk a) (Vm.Alike.refl U.vm) qZ⟩,
     fun U hU hW => ⟨rfl, by rw [hU], by rw [hU]; exact hP, va_K.moved hW.alike hK, hD.weaken (fun _ _ _ _ => trivial), fnests_warm hW hN, by
      rw [hU]
      have hZ1 := fst1_moved hW.alike (fst1_kept hS.2.1 hZ)
      exact ⟨⟨hZ1.1.1.narrow hFc, hZ1.1.2.narrow hFc⟩, hZ1.2.1.narrow hFc, hZ1.2.2.narrow hFc⟩⟩⟩ rfl rfl hl.1 rfl (lv_room (Nat.le_of_ble_eq_true rfl)) dL_law_12 ⟨Nat.le_of_ble_eq_true rfl, Nat.le_of_ble_eq_true rfl⟩) hS (fun q _ h => hFc q h) hFc (fun u t H1 locs ht hvm hw hB hz1 hk1 hS => ?_)
  obtain ⟨ad2, t2⟩ := u
  obtain ⟨hP1, hD1, hpre, a53, aP, aT⟩ := hB
  rw [ht] at hP1
  dsimp only at hw hP1 hD1 hpre a53 aP aT
  have hPb : va_P D vwCl (fwl ad2 67 (fG ad2 cs t2)) H1 := hP1
  have hDb : va_D (fun q : Nat => s.heap.size ≤ q) (fwl ad2 67 (fG ad2 cs t2)) := hD1.weaken (fun _ q _ h => hFc _ h)
  have e0 : adr 0 = ad2 0 := (hpre 0 (by decide)).symm
  rw [e0] at hl
  subst a53
  refine lv_astore_n (lv' := [(2, .ref (ad2 53)), (1, .ref (ad2 0)), (0, .ref b)]) hx hb dL_law_15 rfl hl (by decide) rfl (fun ls hl => ?_)
  refine lv_iconst (v := 0) hx hb dL_law_16 (by decide) ?_
  refine lv_istore_n (lv' := [(3, .int 0), (2, .ref (ad2 53)), (1, .ref (ad2 0)), (0, .ref b)]) hx hb dL_law_17 rfl hl (by decide) rfl (fun ls hl => ?_)
  have hIn := fwl_in hDb
  have X : fLx D ad2 cs p s m b L xs c := ⟨⟨hx, hb, hml, hown, hts⟩, hK, hN, fwl_inj hDb, hIn, fst1_at hZ aP aT hIn, hX, hbl⟩
  exact law_loop hL X hOK hr hlocks (L + 1) 0 0 t2 _ _ _ (Nat.zero_le L) (by omega) nI_0.symm hw hPb hS (lv_sub hl [3, 2, 1, 0] rfl)
